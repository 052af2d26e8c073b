/** The bounds of promises 1 to 5 (a new object, feed, text, fault, where) and 46 to 48. */
public final class EdgeTapeTest {
    private static final String NAMES = "arm a left 1 1 0 0;arm ab right 1 1 0 0;"
        + "arm abcdefg left 1 1 0 0;arm zzzzzzz left 1 1 0 0;game 0 0 1";

    public static void main(String[] args) {
        newObject();
        tapeUpTo800();
        fullTapeIsRead();
        highestByteFirst();
        feedLeavesTrouble();
        numbersOfText();
        textWithoutBytes();
        textOfTheFirstBytes();
        textTakesAllAway();
        faultLeavesAll();
        faultOfTheLatestText();
        whereAndTrouble();
        callsWithoutNumbers();
        namesOnTheTape();
        bytesAsideOfNames();
        numbersOfNamed();
        namedWithoutText();
        sizes();
        Check.end();
    }

    /** "No TEXT": nothing is on THE TAPE, nothing was refused, nothing can be undone. */
    private static void newObject() {
        ThrowArms arms = new ThrowArms();
        Check.equal("trouble", arms.trouble(), 0);
        Check.equal("where", arms.where(), -1);
        Check.equal("fault", arms.fault(), 0);
        Check.equal("size", arms.size(), 0);
        Check.refused("about", arms, arms.about(0), 1);
        Check.refused("undo", arms, arms.undo(), 1);
        Check.equal("fault", arms.fault(), 0);
        Check.equal("an object of its own", Check.told(Edge.LEAST).about(1), 1);
        Check.refused("about", arms, arms.about(1), 1);
    }

    /** "how many it has; NONE, and none comes, if there would be more than 800". */
    private static void tapeUpTo800() {
        ThrowArms arms = new ThrowArms();
        for (int size = 20; size <= 800; size += 20) {
            Check.equal("feed", arms.feed(0x20202020, 0x20202020, 0x20202020, 0x20202020,
                0x20202020), size);
            Check.equal("size", arms.size(), size);
        }
        for (int i = 0; i < 3; i++) {
            Check.equal("feed beyond", arms.feed(1, 2, 3, 4, 5), -1);
            Check.equal("size stays", arms.size(), 800);
        }
        Check.equal("all of it are blanks", arms.text(800), -1);
        Check.equal("to the end", arms.where(), 800);
        Check.equal("feed does again", arms.feed(0, 0, 0, 0, 0), 20);
    }

    /** What a refused feed() would bring isn't there, neither at the end nor at the beginning. */
    private static void fullTapeIsRead() {
        ThrowArms arms = new ThrowArms();
        String blanks = " ".repeat(800 - Edge.LEAST.length());
        Check.equal("feed", Check.feed(arms, blanks + Edge.LEAST), 800);
        Check.equal("feed beyond", arms.feed(-1, -1, -1, -1, -1), -1);
        Check.refused("more than there is", arms, arms.text(801), 2);
        Check.equal("THE TAPE stays", arms.size(), 800);
        Check.answered("all of it", arms, arms.text(800), 1);
        Check.equal("feed", Check.feed(arms, blanks + Edge.LEAST), 800);
        Check.equal("all but one", arms.text(799), -1);
        Check.equal("one is wanting", arms.where(), 799);
        Check.equal("FORM", arms.fault(), 1);
    }

    /** "Twenty bytes come .., of each number the highest first": none of 127 to 255 is another. */
    private static void highestByteFirst() {
        for (int place = 0; place < 20; place++) {
            for (int sign : new int[] {0x00, 0x1f, 0x21, 0x7f, 0x80, 0xa0, 0xff}) {
                int[] five = {0x20202020, 0x20202020, 0x20202020, 0x20202020, 0x20202020};
                int shift = 24 - 8 * (place % 4);
                five[place / 4] = five[place / 4] & ~(0xff << shift) | sign << shift;
                ThrowArms arms = new ThrowArms();
                arms.feed(five[0], five[1], five[2], five[3], five[4]);
                Check.equal("no TOKEN", arms.text(20), -1);
                Check.equal("its place", arms.where(), place);
            }
        }
    }

    /** "(trouble() stays)", whether feed() does or doesn't. */
    private static void feedLeavesTrouble() {
        for (int number = 0; number <= 5; number++) {
            ThrowArms arms = inTrouble(number);
            int where = arms.where();
            int fault = arms.fault();
            for (int i = 0; i < 41; i++) {
                Check.equal("feed", arms.feed(7, 7, 7, 7, 7), i < 40 ? 20 * i + 20 : -1);
                Check.equal("trouble stays", arms.trouble(), number);
                Check.equal("where stays", arms.where(), where);
                Check.equal("fault stays", arms.fault(), fault);
            }
        }
    }

    /** An object the latest call of which that may be refused was so by a number, or by none. */
    private static ThrowArms inTrouble(int number) {
        ThrowArms arms = Check.told(Edge.LEAST);
        switch (number) {
            case 0: arms.about(0); break;
            case 1: arms.about(8); break;
            case 2: arms.text(1); break;
            case 3: arms.put(0, 0, 1, false); arms.put(0, 0, 1, false); break;
            case 4: Check.tell(arms, "week ?"); break;
            default: arms.undo(); break;
        }
        Check.equal("trouble", arms.trouble(), number);
        Check.equal("where", arms.where(), number == 4 ? 5 : -1);
        return arms;
    }

    /** "NONE: 2 (n)": n below 0, or more bytes than THE TAPE has; all stays but trouble(), where(). */
    private static void numbersOfText() {
        for (int wrong : new int[] {-1, 1, 20, 801, Edge.LOWEST, Edge.HIGHEST}) {
            Edge.refused("text", Edge.scene(Edge.SMALL, x -> x.put(0, 0, 9, false)), 2,
                x -> x.text(wrong));
        }
        ThrowArms arms = new ThrowArms();
        Check.refused("nothing was fed", arms, arms.text(1), 2);
        Check.refused("below", arms, arms.text(-1), 2);
        for (int size = 40; size <= 800; size += 380) {
            arms = Check.told(Edge.LEAST);
            Check.feed(arms, Edge.LEAST + " ".repeat(size - Edge.LEAST.length()));
            Check.refused("one more", arms, arms.text(size + 1), 2);
            Check.refused("below", arms, arms.text(-1), 2);
            Check.refused("lowest", arms, arms.text(Edge.LOWEST), 2);
            Check.refused("highest", arms, arms.text(Edge.HIGHEST), 2);
            Check.equal("THE TAPE stays", arms.size(), size);
            Check.equal("fault stays", arms.fault(), 0);
            Check.answered("all of it", arms, arms.text(size), 1);
            Check.equal("THE TAPE is empty", arms.size(), 0);
        }
    }

    /** No bytes can be the first ones of any TAPE: they are no TEXT. */
    private static void textWithoutBytes() {
        for (int bytes = 0; bytes <= 800; bytes += 400) {
            ThrowArms arms = new ThrowArms();
            Check.feed(arms, " ".repeat(bytes));
            Check.equal("text(0)", arms.text(0), -1);
            Check.equal("its trouble", arms.trouble(), 4);
            Check.equal("its fault", arms.fault(), 1);
            Check.equal("its place", arms.where(), 0);
            Check.equal("THE TAPE is empty", arms.size(), 0);
        }
    }

    /** "The first n bytes of THE TAPE (it is empty then)": a TOKEN may be cut by n. */
    private static void textOfTheFirstBytes() {
        String text = Edge.LEAST + ";week 123;abcdefgh";
        int[] week = {0, 1, 12, 123};
        for (int digits = 1; digits <= 3; digits++) {
            ThrowArms arms = new ThrowArms();
            Check.feed(arms, text);
            Check.answered("text", arms, arms.text(Edge.LEAST.length() + 6 + digits), 1);
            Check.equal("WEEK", arms.about(3), week[digits]);
            Check.equal("THE TAPE is empty", arms.size(), 0);
        }
        for (int letters = 1; letters <= 8; letters++) {
            ThrowArms arms = new ThrowArms();
            Check.feed(arms, text);
            Check.equal("text", arms.text(Edge.LEAST.length() + 10 + letters), -1);
            Check.equal("where", arms.where(), Edge.LEAST.length() + 10);
        }
        ThrowArms arms = new ThrowArms();
        Check.feed(arms, "game 0 0 1????");
        Check.equal("no arm", arms.text(10), -1);
        Check.equal("at the end of n bytes", arms.where(), 10);
        Check.equal("no arm", arms.fault(), 5);
    }

    /** "all that there was is gone", "a TEXT leaves none, and THE PLAN is empty". */
    private static void textTakesAllAway() {
        ThrowArms arms = Edge.full().set();
        arms.become(0, 0, 1);
        Check.answered("told again", arms, Check.tell(arms, Edge.fullText()), 20);
        int[] due = {8, 20, 0, 500, 9, 60, 5, 0};
        for (int what = 0; what < due.length; what++) {
            Check.answered("about " + what, arms, arms.about(what), due[what]);
        }
        Check.equal("STRENGTH as told", arms.arm(0, 1), 90);
        Check.equal("nobody throws", arms.value(), 0);
        Check.refused("nothing to undo", arms, arms.undo(), 5);
        Check.answered("the least text", arms, Check.tell(arms, Edge.LEAST), 1);
        Check.refused("no second THROWER", arms, arms.arm(1, 0), 1);
        Check.refused("no second GAME", arms, arms.game(1, 0), 1);
        Check.refused("no rest", arms, arms.rests(0, 0), 1);
        Check.equal("an ACT", arms.put(0, 0, 1, false), 1);
        Check.answered("one can be undone", arms, arms.undo(), 0);
        Check.refused("no more", arms, arms.undo(), 5);
        Check.answered("all again", arms, Check.tell(arms, Edge.fullText()), 20);
        Check.equal("THE PLAN is empty", arms.about(2), 0);
        Check.equal("the last GAME is empty", arms.game(19, 4), 200);
        Check.equal("MOST", arms.most(7, 19), 120);
    }

    /** "What is refused changes nothing but ..; by 4 THE TAPE (empty then), fault()". */
    private static void faultLeavesAll() {
        String[] texts = {"", "?", Edge.LEAST + ";", "week 501", Edge.LEAST + ";arm a", "edge 1",
            "arm bob left 9 9 9 9;game 7 7 7;rest 1 1;week 7;edge 7;out 7;x"};
        Edge.Scene scene = Edge.scene(Edge.SMALL, x -> x.put(0, 0, 9, false), x -> x.rule(2, 7));
        for (String text : texts) {
            // by its own FAULT 1, and trouble() by about(): the same as if it hadn't been told
            Edge.refused("behind " + text, scene, 1, x -> {
                Check.tell(x, text);
                Check.equal("trouble of " + text, x.trouble(), 4);
                Check.tell(x, "?");
                return x.about(-1);
            });
        }
    }

    /** "The FAULT of the latest text() not refused by 2; 0 without one, ahead of any". */
    private static void faultOfTheLatestText() {
        ThrowArms arms = new ThrowArms();
        Check.equal("ahead of any", arms.fault(), 0);
        arms.text(1);
        Check.equal("refused by 2", arms.fault(), 0);
        String[] texts = {"?", "week 501", "edge 1;edge", ninthArm(), "out 1", Edge.LEAST, "out 1"};
        int[] faults = {1, 2, 3, 4, 5, 0, 5};
        for (int i = 0; i < texts.length; i++) {
            Check.tell(arms, texts[i]);
            Check.equal("fault of " + texts[i], arms.fault(), faults[i]);
            arms.text(21);
            Check.equal("refused by 2", arms.fault(), faults[i]);
            arms.about(0);
            arms.undo();
            Check.equal("fault stays", arms.fault(), faults[i]);
        }
    }

    private static String ninthArm() {
        StringBuilder text = new StringBuilder();
        for (int t = 0; t < 8; t++) {
            text.append("arm ").append((char) ('a' + t)).append(" left 1 1 0 0;");
        }
        return text.append("arm").toString();
    }

    /** "Its place, if the latest call that may be refused was by 4; NONE else". */
    private static void whereAndTrouble() {
        ThrowArms arms = Check.told(Edge.LEAST);
        int[] numbers = {4, 0, 4, 1, 4, 2, 4, 5, 4};
        for (int number : numbers) {
            switch (number) {
                case 0: arms.value(); break;
                case 1: arms.value(); arms.arm(1, 0); break;
                case 2: arms.rest(201); break;
                case 4: Check.tell(arms, "week 1;week 1"); break;
                default: arms.undo(); break;
            }
            Check.equal("trouble", arms.trouble(), number);
            Check.equal("where", arms.where(), number == 4 ? 7 : -1);
            Check.equal("fault", arms.fault(), 3);
        }
        Check.feed(arms, Edge.LEAST);
        Check.equal("where stays", arms.where(), 7);
        Check.answered("a text without a FAULT", arms, arms.text(29), 1);
        Check.equal("fault", arms.fault(), 0);
    }

    /** fault, where, named, size, trouble tell no number: what they find stays. */
    private static void callsWithoutNumbers() {
        for (int number = 0; number <= 5; number++) {
            ThrowArms arms = inTrouble(number);
            int where = number == 4 ? 5 : -1;
            Check.feed(arms, "a");
            for (int i = 0; i < 2; i++) {
                Check.equal("size", arms.size(), 20);
                Check.equal("fault", arms.fault(), number == 4 ? 1 : 0);
                Check.equal("named", arms.named(1), 0);
                Check.notNamed("named", arms, 0);
                Check.notNamed("named", arms, 21);
                Check.equal("where", arms.where(), where);
                Check.equal("trouble", arms.trouble(), number);
            }
        }
    }

    private static ThrowArms withTape(String bytes) {
        ThrowArms arms = Check.told(NAMES);
        Check.feed(arms, bytes);
        return arms;
    }

    /** "The THROWER whose NAME lies in the first n bytes": n may cut a WORD. */
    private static void namesOnTheTape() {
        ThrowArms arms = withTape("abcdefgh");
        int[] due = {-1, 0, 1, -1, -1, -1, -1, 2, -1};
        for (int n = 0; n < due.length; n++) {
            if (due[n] < 0) {
                Check.notNamed("of abcdefgh", arms, n);
            } else {
                Check.equal("named " + n, arms.named(n), due[n]);
            }
        }
        Check.equal("THE TAPE stays", arms.size(), 20);
        Check.equal("the last one", withTape("zzzzzzz").named(20), 3);
        Check.notNamed("another WORD", withTape("zzzzzzy"), 20);
        Check.notNamed("a NAME that begins so", withTape("zzzzzz"), 20);
        Check.notNamed("no NAME", withTape("arm"), 20);
        Check.notNamed("no NAME", withTape("left"), 20);
        Check.equal("THE TAPE is full", withTape("a" + " ".repeat(799)).named(800), 0);
        Check.equal("THE TAPE is full", withTape(" ".repeat(799) + "a").named(800), 0);
        Check.notNamed("too many letters", withTape("a".repeat(800)), 800);
        // its last seven letters are a NAME, and 64 bits don't hold more than twelve
        Check.notNamed("too many letters", withTape("abcdefgzzzzzzz"), 14);
        Check.notNamed("too many letters", withTape("a".repeat(13) + "zzzzzzz"), 20);
    }

    /** "blanks ahead of it, behind it aside": any other byte isn't. */
    private static void bytesAsideOfNames() {
        for (int sign = 0; sign < 256; sign++) {
            ThrowArms ahead = withTape((char) sign + "ab");
            ThrowArms behind = withTape("ab" + (char) sign);
            if (sign == ' ') {
                Check.equal("blank ahead", ahead.named(3), 1);
                Check.equal("blank behind", behind.named(3), 1);
            } else {
                Check.notNamed("byte " + sign + " ahead", ahead, 3);
                Check.notNamed("byte " + sign + " behind", behind, 3);
            }
        }
        Check.notNamed("two NAMES", withTape("a ab"), 4);
        Check.notNamed("two NAMES", withTape("a a"), 3);
        Check.equal("the first of them", withTape("a ab").named(2), 0);
        Check.notNamed("a blank within", withTape("abcd efg"), 8);
        Check.notNamed("blanks alone", withTape(" ".repeat(20)), 20);
    }

    /** "NoSuchElementException if there is none such (n can't be, too)". */
    private static void numbersOfNamed() {
        ThrowArms arms = withTape("a");
        Check.equal("all bytes", arms.named(20), 0);
        for (int wrong : new int[] {-1, 0, 21, 800, 801, Edge.LOWEST, Edge.HIGHEST}) {
            Check.notNamed("n", arms, wrong);
        }
        Check.equal("THE TAPE stays", arms.size(), 20);
        arms = Check.told(NAMES);
        Check.notNamed("an empty TAPE", arms, 0);
        Check.notNamed("an empty TAPE", arms, 1);
    }

    /** No TEXT, no NAME; a FAULT leaves the NAMES of the TEXT that was, and brings none. */
    private static void namedWithoutText() {
        ThrowArms arms = new ThrowArms();
        Check.notNamed("a new object", arms, 0);
        Check.feed(arms, "a");
        Check.notNamed("no TEXT", arms, 1);
        Check.equal("trouble", arms.trouble(), 0);
        Check.tell(arms, "a");
        Check.tell(arms, "arm b left 1 1 0 0");
        Check.feed(arms, "b");
        Check.notNamed("of a faulty text", arms, 1);
        arms = withTape("?");
        Check.equal("a FAULT", arms.text(1), -1);
        Check.equal("a FAULT", Check.tell(arms, "arm zz left 1 1 0 0;arm a left 1 1 0 0"), -1);
        Check.feed(arms, "zz");
        Check.notNamed("of a faulty text", arms, 2);
        Check.equal("emptied", arms.text(0), -1);
        Check.feed(arms, "a");
        Check.equal("the NAME stays", arms.named(1), 0);
        Check.equal("another TEXT", arms.text(0), -1);
        Check.equal("another TEXT", Check.tell(arms, "arm q left 1 1 0 0;game 0 0 1"), 1);
        Check.feed(arms, "a");
        Check.notNamed("of the TEXT that was", arms, 1);
    }

    /** "Bytes of THE TAPE". */
    private static void sizes() {
        ThrowArms arms = new ThrowArms();
        Check.equal("none", arms.size(), 0);
        arms.text(-1);
        Check.equal("none", arms.size(), 0);
        arms.feed(0, 0, 0, 0, 0);
        arms.feed(0, 0, 0, 0, 0);
        Check.equal("forty", arms.size(), 40);
        arms.text(41);
        Check.equal("forty", arms.size(), 40);
        arms.text(3);
        Check.equal("a FAULT empties it", arms.size(), 0);
        Check.feed(arms, Edge.LEAST);
        Check.equal("forty", arms.size(), 40);
        arms.text(29);
        Check.equal("so does a TEXT", arms.size(), 0);
        Check.equal("trouble", arms.trouble(), 0);
    }
}
