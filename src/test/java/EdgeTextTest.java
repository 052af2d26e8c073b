import java.util.ArrayList;
import java.util.List;

/** Terms I: the bounds of TOKENS, of every WHOLE of a LINE, of how many there may be; the FAULTS. */
public final class EdgeTextTest {
    private static final String ARM = "arm a left 1 1 0 0";
    private static final String GAME = "game 0 0 1";
    private static final String GOOD = ARM + ";" + GAME;

    public static void main(String[] args) {
        everyByte();
        lettersThatStandTogether();
        digitsThatStandTogether();
        blanksMeanNothing();
        wholesOfThrowers();
        wholesOfGames();
        wholesOfRests();
        wholesOnce();
        withoutLines();
        eightThrowers();
        twentyGames();
        fiveRests();
        onceEach();
        fullText();
        namesThatMayBe();
        noTwoAlike();
        unlikeNames();
        wordsOfLines();
        linesCutShort();
        wrongTokens();
        tokensBehindALine();
        endOfTheText();
        nothingTold();
        firstTokenIsTold();
        Check.end();
    }

    private static ThrowArms taken(String text) {
        ThrowArms arms = new ThrowArms();
        int games = Check.tell(arms, text);
        Check.isTrue("taken: " + text, games > 0);
        Check.answered("games of " + text, arms, arms.about(1), games);
        Check.equal("fault of " + text, arms.fault(), 0);
        return arms;
    }

    /** Told in an object without a TEXT and in one with a TEXT, a PLAN, an ACT: these stay. */
    private static void faulty(String text, int fault, int place) {
        ThrowArms arms = new ThrowArms();
        tellFaulty(arms, text, fault, place);
        Check.refused("still no TEXT", arms, arms.about(0), 1);
        arms = Check.told("arm zoe right 9 8 7 6;game 5 4 9;week 33");
        arms.put(0, 0, 3, false);
        tellFaulty(arms, text, fault, place);
        Check.answered("his throws stay", arms, arms.arm(0, 5), 3);
        Check.equal("his HAND stays", arms.arm(0, 0), 1);
        Check.equal("DAY stays", arms.game(0, 0), 5);
        Check.equal("WEEK stays", arms.about(3), 33);
        Check.equal("the ACT stays", arms.about(7), 1);
    }

    private static void tellFaulty(ThrowArms arms, String text, int fault, int place) {
        Check.equal("text " + text, Check.tell(arms, text), ThrowArms.NONE);
        Check.equal("trouble of " + text, arms.trouble(), 4);
        Check.equal("fault of " + text, arms.fault(), fault);
        Check.equal("where of " + text, arms.where(), place);
        Check.equal("THE TAPE behind " + text, arms.size(), 0);
    }

    /** "a byte that begins no TOKEN": all but blanks, small letters, digits and ; are such. */
    private static void everyByte() {
        for (int sign = 0; sign < 256; sign++) {
            String text = GOOD + " " + (char) sign;
            if (sign == ' ') {
                taken(text);
            } else {
                faulty(text, 1, sign == ';' ? 31 : 30);
            }
            boolean letter = sign >= 'a' && sign <= 'z';
            text = "arm " + (char) sign + " left 1 1 0 0;" + GAME;
            if (letter) {
                taken(text);
            } else {
                faulty(text, 1, sign == ' ' ? 6 : 4);
            }
        }
        for (int sign = 0; sign < 256; sign++) {
            String text = "arm a left 1 9 0 " + (char) sign + ";" + GAME;
            if (sign >= '0' && sign <= '9') {
                Check.equal("FRAIL", taken(text).arm(0, 4), sign - '0');
            } else {
                faulty(text, 1, sign == ' ' ? 18 : 17);
            }
        }
    }

    /** "WORDS of 1 to 7 small letters", "letters too many .. (at the first of these)". */
    private static void lettersThatStandTogether() {
        for (int count = 1; count <= 7; count++) {
            taken("arm " + "z".repeat(count) + " left 1 1 0 0;" + GAME);
        }
        for (int count : new int[] {8, 9, 13, 14, 15, 64, 700}) {
            faulty("arm " + "z".repeat(count) + " left 1 1 0 0;" + GAME, 1, 4);
        }
        faulty("arm    abcdefgh left 1 1 0 0;" + GAME, 1, 7);
        faulty("a".repeat(800), 1, 0);
        // seven letters, and seven more: these stand together, a blank parts them
        faulty("arm aaaaaaaleft 1 1 0 0;" + GAME, 1, 4);
        taken("arm aaaaaaa left 1 1 0 0;" + GAME);
    }

    /** "WHOLES of 1 to 3 digits": four are too many, whatever they tell. */
    private static void digitsThatStandTogether() {
        String[] sevens = {"7", "07", "007"};
        for (String seven : sevens) {
            Check.equal("STRENGTH", taken("arm a left " + seven + " 7 7 7;" + GAME).arm(0, 1), 7);
        }
        String[] tooMany = {"0007", "00007", "7000", "4294967303", "18446744073709551623"};
        for (String digits : tooMany) {
            faulty("arm a left " + digits + " 7 7 7;" + GAME, 1, 11);
            faulty("arm a left   " + digits, 1, 13);
        }
        faulty("week " + "0".repeat(795), 1, 5);
    }

    /** "blanks part TOKENS and mean nothing else": none is needed between unlike ones. */
    private static void blanksMeanNothing() {
        taken("arm a left1 1 0 0;game0 0 1");
        taken("   arm  a   left    1 1 0 0   ;   game 0   0 1   ");
        taken(GOOD + " ".repeat(800 - GOOD.length()));
        taken(" ".repeat(800 - GOOD.length()) + GOOD);
        faulty("ar m a left 1 1 0 0;" + GAME, 1, 0);
        // 0 and 1 stand for two WHOLES, 01 for one: then one is wanting
        faulty("arm a left 1 1 00;" + GAME, 1, 17);
        faulty("arm a left 1 1 0 0;game 0 01", 1, 28);
    }

    private interface Told {
        int of(ThrowArms arms);
    }

    /** Every WHOLE from 0 to 999 at a place: those from low to high are taken, and so told. */
    private static void whole(String ahead, String behind, int low, int high, Told told) {
        for (int n = 0; n < 1000; n++) {
            String text = ahead + n + behind;
            if (n >= low && n <= high) {
                Check.equal(text, told.of(taken(text)), n);
            } else if (n == low - 1 || n == high + 1 || n % 100 == 99) {
                faulty(text, 2, ahead.length());
            } else {
                Check.equal(text, Check.tell(new ThrowArms(), text), ThrowArms.NONE);
            }
        }
        faulty(ahead + "1000" + behind, 1, ahead.length());
        faulty(ahead + "-1" + behind, 1, ahead.length());
    }

    /** "STRENGTH 1 .. 99, STAMINA 1 .. 120, TIRES 0 .. STAMINA, FRAIL 0 .. 9". */
    private static void wholesOfThrowers() {
        for (String hand : new String[] {"left ", "right "}) {
            String arm = "arm a " + hand;
            whole(arm, " 1 0 0;" + GAME, 1, 99, x -> x.arm(0, 1));
            whole(arm + "1 ", " 0 0;" + GAME, 1, 120, x -> x.arm(0, 2));
            whole(arm + "1 120 ", " 0;" + GAME, 0, 120, x -> x.arm(0, 3));
            whole(arm + "1 57 ", " 0;" + GAME, 0, 57, x -> x.arm(0, 3));
            whole(arm + "1 1 ", " 0;" + GAME, 0, 1, x -> x.arm(0, 3));
            whole(arm + "1 1 1 ", ";" + GAME, 0, 9, x -> x.arm(0, 4));
        }
        // TIRES goes by his own STAMINA, not by another one's
        String other = "arm b left 99 120 120 9;" + GAME + ";";
        whole(other + "arm a left 1 3 ", " 0", 0, 3, x -> x.arm(1, 3));
    }

    /** "DAY 0 .. 59, later than that of the GAME told ahead; LEFTS 0 .. 9; NEED 1 .. 200". */
    private static void wholesOfGames() {
        String ahead = ARM + ";game ";
        whole(ahead, " 0 1", 0, 59, x -> x.game(0, 0));
        whole(ahead + "0 ", " 1", 0, 9, x -> x.game(0, 1));
        whole(ahead + "0 0 ", "", 1, 200, x -> x.game(0, 2));
        whole(ahead + "0 0 1;game ", " 0 1", 1, 59, x -> x.game(1, 0));
        whole(ahead + "31 0 1;week 9;game ", " 0 1", 32, 59, x -> x.game(1, 0));
        whole(ahead + "58 0 1;game ", " 0 1", 59, 59, x -> x.game(1, 0));
        String last = ahead + "59 0 1;game ";
        faulty(last + "59 0 1", 2, last.length());
        faulty(last + "60 0 1", 2, last.length());
        faulty(last + "0 0 1", 2, last.length());
    }

    /** "FROM 1 .. 120, greater than that told ahead; DAYS 0 .. 9". */
    private static void wholesOfRests() {
        String ahead = GOOD + ";rest ";
        whole(ahead, " 9", 1, 120, EdgeTextTest::firstThatRests);
        whole(ahead + "7 ", "", 0, 9, x -> x.rest(7));
        whole(ahead + "1 0;rest ", " 9", 2, 120, EdgeTextTest::firstThatRests);
        whole(ahead + "63 0;edge 9;rest ", " 9", 64, 120, EdgeTextTest::firstThatRests);
        whole(ahead + "119 0;rest ", " 9", 120, 120, EdgeTextTest::firstThatRests);
        String last = ahead + "120 9;rest ";
        faulty(last + "120 9", 2, last.length());
        faulty(last + "121 9", 2, last.length());
        faulty(last + "1 9", 2, last.length());
    }

    private static int firstThatRests(ThrowArms arms) {
        for (int x = 0; x <= 200; x++) {
            if (arms.rest(x) == 9) {
                return x;
            }
        }
        return ThrowArms.NONE;
    }

    /** "week N (0 .. 500), edge N (0 .. 9), or out N (1 .. 60)". */
    private static void wholesOnce() {
        whole("week ", ";" + GOOD, 0, 500, x -> x.about(3));
        whole("edge ", ";" + GOOD, 0, 9, x -> x.about(4));
        whole("out ", ";" + GOOD, 1, 60, x -> x.about(5));
        whole(GOOD + ";week ", "", 0, 500, x -> x.about(3));
        whole(GOOD + ";edge ", "", 0, 9, x -> x.about(4));
        whole(GOOD + ";out ", "", 1, 60, x -> x.about(5));
    }

    /** "0 without", "0 without", "15 without". */
    private static void withoutLines() {
        ThrowArms arms = taken(GOOD);
        int[] due = {1, 1, 0, 0, 0, 15, 0, 0};
        for (int what = 0; what < due.length; what++) {
            Check.answered("about " + what, arms, arms.about(what), due[what]);
        }
        // what an earlier TEXT told is without, too
        arms = taken("week 9;edge 9;out 9;rest 1 9;" + GOOD);
        Check.equal("told again", Check.tell(arms, GOOD), 1);
        for (int what = 0; what < due.length; what++) {
            Check.answered("about " + what, arms, arms.about(what), due[what]);
        }
    }

    private static String throwers(int count) {
        StringBuilder text = new StringBuilder();
        for (int t = 0; t < count; t++) {
            text.append("arm ").append((char) ('a' + t)).append(" left 1 1 0 0;");
        }
        return text.toString();
    }

    private static String games(int count) {
        StringBuilder text = new StringBuilder();
        for (int g = 0; g < count; g++) {
            text.append("game ").append(g).append(" 0 1;");
        }
        return text.toString();
    }

    private static String rests(int count) {
        StringBuilder text = new StringBuilder();
        for (int i = 1; i <= count; i++) {
            text.append("rest ").append(i).append(" 0;");
        }
        return text.toString();
    }

    /** "up to 8", "4 a ninth arm .. at that WORD". */
    private static void eightThrowers() {
        for (int count = 1; count <= 8; count++) {
            Check.equal("THROWERS", taken(throwers(count) + GAME).about(0), count);
        }
        String eight = throwers(8);
        faulty(eight + "arm i left 1 1 0 0;" + GAME, 4, eight.length());
        faulty(eight + GAME + ";  arm", 4, eight.length() + 13);
        faulty(eight + "arm a left 1 1 0 0", 4, eight.length());
        faulty(eight + "arm ?", 4, eight.length());
    }

    /** "up to 20", "a 21st game". */
    private static void twentyGames() {
        for (int count = 1; count <= 20; count++) {
            Check.equal("GAMES", taken(games(count) + ARM).about(1), count);
        }
        String twenty = games(20);
        faulty(twenty + "game 20 0 1;" + ARM, 4, twenty.length());
        faulty(twenty + ARM + ";  game", 4, twenty.length() + 21);
        faulty(twenty + "game 19 0 1;" + ARM, 4, twenty.length());
        faulty(twenty + "game ?", 4, twenty.length());
    }

    /** "up to 5", "a sixth rest". */
    private static void fiveRests() {
        for (int count = 0; count <= 5; count++) {
            Check.equal("rests", taken(rests(count) + GOOD).about(6), count);
        }
        String five = rests(5);
        faulty(five + "rest 6 0;" + GOOD, 4, five.length());
        faulty(five + GOOD + ";  rest", 4, five.length() + 32);
        faulty(five + "rest 5 0;" + GOOD, 4, five.length());
        faulty(five + "rest ?", 4, five.length());
    }

    /** "once each", "3 .. week, edge, out a second time, at that WORD". */
    private static void onceEach() {
        String[] lines = {"week ", "edge ", "out "};
        for (String line : lines) {
            taken(line + "1;" + GOOD);
            String first = line + "1;";
            faulty(first + line + "1;" + GOOD, 3, first.length());
            faulty(first + line, 3, first.length());
            faulty(first + line + "?", 3, first.length());
            faulty(first + GOOD + ";" + line + "999", 3, first.length() + 30);
        }
        // told as it is without, it is told all the same
        faulty("week 0;week 0;" + GOOD, 3, 7);
        faulty("edge 0;edge 0;" + GOOD, 3, 7);
        faulty("out 15;out 15;" + GOOD, 3, 7);
        taken("week 1;edge 1;out 1;" + GOOD);
        taken("out 1;edge 1;" + GOOD + ";week 1");
    }

    /** All that there may be at once, 36 LINES, to the last of 800 bytes. */
    private static void fullText() {
        String all = throwers(8) + games(20) + rests(5) + "week 1;edge 1;out 1";
        int[] due = {8, 20, 0, 1, 1, 1, 5, 0};
        String blanks = " ".repeat(800 - all.length());
        for (String text : new String[] {all, all + blanks, blanks + all}) {
            ThrowArms arms = taken(text);
            for (int what = 0; what < due.length; what++) {
                Check.equal("about " + what, arms.about(what), due[what]);
            }
        }
        int end = all.length() + 1;
        faulty(all + ";arm z left 1 1 0 0", 4, end);
        faulty(all + ";game 59 0 1", 4, end);
        faulty(all + ";rest 120 0", 4, end);
        faulty(all + ";week 1", 3, end);
        faulty(all + ";edge 1", 3, end);
        faulty(all + ";out 1", 3, end);
        faulty(all + ";", 1, end);
        faulty(all + ";x", 1, end);
        faulty(all + " x", 1, end);
    }

    /** "A NAME is a WORD but arm, left, right, game, rest, week, edge, out". */
    private static void namesThatMayBe() {
        for (String word : "arm left right game rest week edge out".split(" ")) {
            faulty("arm " + word + " left 1 1 0 0;" + GAME, 1, 4);
            String cut = word.substring(0, word.length() - 1);
            taken("arm " + cut + " left 1 1 0 0;" + GAME);
            taken("arm " + word + "s left 1 1 0 0;" + GAME);
            taken("arm " + word.substring(1) + " left 1 1 0 0;" + GAME);
        }
    }

    /** "no two alike", "3 a NAME told again", at the NAME. */
    private static void noTwoAlike() {
        faulty(ARM + ";" + ARM + ";" + GAME, 3, 23);
        faulty(ARM + ";arm a right 9 9 9 9;" + GAME, 3, 23);
        faulty(GOOD + ";arm  a", 3, 35);
        faulty(GOOD + ";arm a ?", 3, 34);
        faulty("arm zzzzzzz left 1 1 0 0;arm zzzzzzz left 1 1 0 0;" + GAME, 3, 29);
        String eight = throwers(7) + "arm g left 1 1 0 0;" + GAME;
        faulty(eight, 3, throwers(7).length() + 4);
        taken("arm a left 1 1 0 0;arm aa left 1 1 0 0;arm aaa left 1 1 0 0;" + GAME);
        taken("arm aaaaaaa left 1 1 0 0;arm aaaaaab left 1 1 0 0;"
            + "arm baaaaaa left 1 1 0 0;arm aaaaaa left 1 1 0 0;" + GAME);
        taken("arm ab left 1 1 0 0;arm ba left 1 1 0 0;arm zz left 1 1 0 0;" + GAME);
    }

    /** NAMES that differ in one letter or in how many they have are two, whatever the letters. */
    private static void unlikeNames() {
        String letters = "aboz";
        List<String> names = new ArrayList<>();
        for (int from = 0, length = 0; length < 3; length++) {
            int to = names.size();
            for (char letter : letters.toCharArray()) {
                for (int i = from; i < to; i++) {
                    names.add(names.get(i) + letter);
                }
                if (length == 0) {
                    names.add("" + letter);
                }
            }
            from = to;
        }
        for (int at = 0; at < 7; at++) {
            for (char letter = 'a'; letter <= 'z'; letter++) {
                names.add("mmmmmmm".substring(0, at) + letter + "mmmmmm".substring(at));
            }
        }
        for (String one : names) {
            for (String other : names) {
                String text = "arm " + one + " left 1 1 0 0;arm " + other + " left 1 1 0 0;" + GAME;
                int due = one.equals(other) ? ThrowArms.NONE : 1;
                Check.equal(text, Check.tell(new ThrowArms(), text), due);
            }
        }
    }

    /** Each letter of the WORDS that begin a LINE, and of a HAND, counts. */
    private static void wordsOfLines() {
        String[] lines = {"arm b left 5 6 4 3", "game 7 3 9", "rest 7 3", "week 7", "edge 7", "out 7"};
        for (String line : lines) {
            for (int i = 0; line.charAt(i) != ' '; i++) {
                String wrong = line.substring(0, i) + "q" + line.substring(i + 1);
                faulty(GOOD + ";" + wrong, 1, 30);
                faulty(GOOD + ";" + line.substring(0, i) + line.substring(i + 1), 1, 30);
            }
        }
        for (String hand : new String[] {"left", "right"}) {
            for (int i = 0; i < hand.length(); i++) {
                String cut = hand.substring(0, i);
                String rest = hand.substring(i + 1) + " 1 1 0 0";
                faulty(GOOD + ";arm b " + cut + "q" + rest, 1, 36);
                faulty(GOOD + ";arm b " + cut + rest, 1, 36);
            }
        }
    }

    private static final String[] LINES = {"arm b left 5 6 4 3", "arm b right 5 6 4 3",
        "game 7 3 9", "rest 7 3", "week 7", "edge 7", "out 7"};

    /** The tokens of a LINE ahead of one of them. */
    private static String ahead(String[] tokens, int i) {
        StringBuilder text = new StringBuilder(GOOD).append(";");
        for (int j = 0; j < i; j++) {
            text.append(tokens[j]).append(' ');
        }
        return text.toString();
    }

    /** "a TOKEN with which no TEXT goes on (the end of the text: how many bytes it has)". */
    private static void linesCutShort() {
        for (String line : LINES) {
            String[] tokens = line.split(" ");
            taken(GOOD + ";" + line);
            for (int i = 0; i < tokens.length; i++) {
                String cut = ahead(tokens, i);
                faulty(cut, 1, cut.length());
                faulty(cut.trim(), 1, cut.trim().length());
                faulty(cut + "   ", 1, cut.length() + 3);
                faulty(cut + ";" + line, 1, cut.length());
            }
        }
    }

    /** Another kind of TOKEN than the LINE asks for, at that TOKEN. */
    private static void wrongTokens() {
        for (String line : LINES) {
            String[] tokens = line.split(" ");
            for (int i = 0; i < tokens.length; i++) {
                String cut = ahead(tokens, i);
                String behind = cut.substring(GOOD.length() + 1);
                boolean name = i == 1 && tokens[0].equals("arm");
                boolean digits = tokens[i].charAt(0) < 'a';
                String[] wrong = digits ? new String[] {"x", "left", "arm", ";", "?", "1234"}
                    : new String[] {"7", "arms", "lef", "rights", ";", "?", "G"};
                for (String token : wrong) {
                    boolean mayBe = name && token.length() > 2;
                    if (!mayBe) {
                        faulty(cut + token + " 1", 1, GOOD.length() + 1 + behind.length());
                    }
                }
            }
        }
    }

    /** Behind a LINE there is a ; or the end. */
    private static void tokensBehindALine() {
        for (String line : LINES) {
            String text = GOOD + ";" + line + " ";
            taken(text);
            taken(text + ";" + "arm c left 1 1 0 0");
            for (String token : new String[] {"7", "x", "arm", "left", "week", "?", "Z"}) {
                faulty(text + token, 1, text.length());
            }
            faulty(text + ";", 1, text.length() + 1);
            faulty(text + "; ;", 1, text.length() + 2);
        }
        faulty(";" + GOOD, 1, 0);
        faulty("  ;" + GOOD, 1, 2);
    }

    /** The empty text, and one of blanks: its end is a TOKEN with which no TEXT goes on. */
    private static void endOfTheText() {
        faulty("", 1, 0);
        faulty(" ", 1, 1);
        faulty(" ".repeat(20), 1, 20);
        faulty(" ".repeat(800), 1, 800);
        String line = GAME + ";";
        faulty(" ".repeat(800 - line.length()) + line, 1, 800);
        // FORM is ahead of 5, which is told at the end, too
        faulty(GAME + ";", 1, 11);
        faulty(ARM + ";", 1, 19);
        faulty("week", 1, 4);
    }

    /** "5 at the end: no arm, or no game". */
    private static void nothingTold() {
        faulty(ARM, 5, 18);
        faulty(GAME, 5, 10);
        faulty("week 1", 5, 6);
        faulty("edge 1;out 1;rest 1 1", 5, 21);
        faulty(throwers(8) + rests(5) + "week 1", 5, 203);
        faulty(games(20) + rests(5) + "week 1  ", 5, games(20).length() + 53);
        faulty(GAME + " ".repeat(790), 5, 800);
    }

    /** "Told is the first TOKEN, from the left, at which one is found". */
    private static void firstTokenIsTold() {
        String[] faults = {"?", "arm arm", "week 501", "arm a", "edge 1;edge", "rest 1 1;rest 1"};
        int[] numbers = {1, 1, 2, 3, 3, 2};
        int[] places = {0, 4, 5, 4, 7, 14};
        for (int i = 0; i < faults.length; i++) {
            for (String later : faults) {
                faulty(GOOD + ";" + faults[i] + ";" + later, numbers[i], 30 + places[i]);
            }
        }
        String eight = throwers(8);
        faulty(eight + "week 501;arm", 2, eight.length() + 5);
        faulty(eight + "arm;week 501", 4, eight.length());
        faulty("arm a left 100 121 121 10", 2, 11);
        faulty("arm a left 99 121 121 10", 2, 14);
        faulty("arm a left 99 120 121 10", 2, 18);
        faulty("arm a left 99 120 120 10", 2, 22);
        faulty("game 60 10 201", 2, 5);
        faulty("game 59 10 201", 2, 8);
        faulty("game 59 9 201", 2, 10);
        faulty("rest 121 10", 2, 5);
        faulty("rest 120 10", 2, 9);
    }
}
