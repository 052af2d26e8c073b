/** Promises 1 to 5 (a new object, feed, text, fault, where) and 46 to 48 (named, size, trouble). */
public final class TextsTest {
    private static final String ARM = "arm a left 1 1 0 0";
    private static final String GAME = "game 0 0 1";
    private static final String GOOD = ARM + ";" + GAME;

    public static void main(String[] args) {
        newObject();
        noText();
        feeding();
        byteOrder();
        goodTexts();
        formFaults();
        boundFaults();
        twiceFaults();
        tooManyFaults();
        lackingFaults();
        firstFaultIsTold();
        refusedNumbers();
        faultLeavesTheRest();
        textTakesAllAway();
        whereFollowsCalls();
        names();
        Check.end();
    }

    private static void newObject() {
        ThrowArms arms = new ThrowArms();
        Check.equal("size", arms.size(), 0);
        Check.equal("trouble", arms.trouble(), 0);
        Check.equal("fault", arms.fault(), 0);
        Check.equal("where", arms.where(), -1);
        Check.notNamed("a new object", arms, 0);
        Check.equal("trouble behind named", arms.trouble(), 0);
    }

    private static void noText() {
        ThrowArms x = new ThrowArms();
        Check.refused("about", x, x.about(0), 1);
        Check.refused("arm", x, x.arm(0, 0), 1);
        Check.refused("game", x, x.game(0, 0), 1);
        Check.refused("rest", x, x.rest(0), 1);
        Check.refused("outing", x, x.outing(0, 0, 0), 1);
        Check.refused("value", x, x.value(), 1);
        Check.refused("points", x, x.points(0, 0), 1);
        Check.refused("worth", x, x.worth(0, 0, 201), 1);
        Check.refused("most", x, x.most(0, 0), 1);
        Check.refused("when", x, x.when(0, 0, 0), 1);
        Check.refused("ranked", x, x.ranked(0, 0), 1);
        Check.refused("extra", x, x.extra(0), 1);
        Check.refused("clash", x, x.clash(0, 0, 0), 1);
        Check.refused("best", x, x.best(0, 0), 1);
        Check.refused("bestOf", x, x.bestOf(0, 0, 0), 1);
        Check.refused("pair", x, x.pair(0, 0, 0), 1);
        Check.refused("breaches", x, x.breaches(), 1);
        Check.refused("breach", x, x.breach(0), 1);
        Check.refused("work", x, x.work(0, 60), 1);
        Check.refused("busiest", x, x.busiest(0, 0), 1);
        Check.refused("idle", x, x.idle(0), 1);
        Check.refused("gap", x, x.gap(0), 1);
        Check.refused("hands", x, x.hands(0, true), 1);
        Check.refused("bare", x, x.bare(0), 1);
        Check.refused("risk", x, x.risk(0), 1);
        Check.refused("sound", x, x.sound(0, 0), 1);
        Check.refused("season", x, x.season(0, 0), 1);
        Check.refused("span", x, x.span(0, 0, 0), 1);
        noTextActs(x);
    }

    private static void noTextActs(ThrowArms x) {
        Check.refused("put", x, x.put(0, 0, 0, true), 1);
        Check.refused("take", x, x.take(0, 0), 1);
        Check.refused("shift", x, x.shift(0, 0, 0), 1);
        Check.isTrue("swap is refused", !x.swap(0, 0, 1, 0));
        Check.equal("trouble of swap", x.trouble(), 1);
        Check.refused("better", x, x.better(), 1);
        Check.refused("fill", x, x.fill(0), 1);
        Check.refused("fillAll", x, x.fillAll(), 1);
        Check.refused("laid", x, x.laid(0, 0), 1);
        Check.refused("become", x, x.become(0, 0, 0), 1);
        Check.refused("rule", x, x.rule(0, -1), 1);
        Check.refused("rests", x, x.rests(0, -1), 1);
        Check.refused("undo", x, x.undo(), 1);
    }

    private static void feeding() {
        ThrowArms arms = new ThrowArms();
        arms.about(0);
        for (int i = 1; i <= 40; i++) {
            Check.equal("feed " + i, arms.feed(0, 0, 0, 0, 0), 20 * i);
        }
        Check.equal("feed beyond 800", arms.feed(1, 2, 3, 4, 5), -1);
        Check.equal("size then", arms.size(), 800);
        Check.equal("trouble stays", arms.trouble(), 1);
        Check.equal("text of zeros", arms.text(800), -1);
        Check.equal("size behind text", arms.size(), 0);
        Check.equal("feed does again", arms.feed(0, 0, 0, 0, 0), 20);
    }

    private static void byteOrder() {
        ThrowArms arms = new ThrowArms();
        arms.feed(0x61726d20, 0x61206c65, 0x66742031, 0x20312030, 0x20303b67);
        arms.feed(0x616d6520, 0x30203020, 0x312020ff, -1, Integer.MIN_VALUE);
        Check.equal("size", arms.size(), 40);
        Check.answered("text by bytes", arms, arms.text(29), 1);
    }

    private static void good(String text, int games) {
        ThrowArms arms = new ThrowArms();
        Check.answered("text " + text, arms, Check.tell(arms, text), games);
        Check.equal("fault of " + text, arms.fault(), 0);
        Check.equal("size behind " + text, arms.size(), 0);
    }

    private static void goodTexts() {
        good(GOOD, 1);
        good("  " + ARM + "  ; " + GAME + "   ", 1);
        good(GAME + ";" + ARM, 1);
        good("arm a left1 1 0 0;game0 0 1", 1);
        good("arm abcdefg right 001 1 0 0;game 00 0 01;out60", 1);
        good("arm a left 99 120 120 9;arm b right 1 1 1 0;game 59 9 200", 1);
        good("week 500;edge 9;out 60;rest 1 9;rest 120 0;" + GOOD, 1);
        good("week 0;edge 0;out 1;" + GOOD, 1);
        good(ARM + ";game 0 0 1;game 1 0 1;game 59 0 1", 3);
        good("arm arms left 1 1 0 0;arm ar right 1 1 0 0;" + GAME, 1);
        good("arm aa left 1 1 0 0;" + GOOD + ";arm ba left 1 1 0 0;arm b left 1 1 0 0", 1);
        good("arm aaaaaaa left 1 1 0 0;" + GOOD + ";arm baaaaaa left 1 1 0 0", 1);
        good("arm zz left 1 1 0 0;" + GOOD + ";arm yz left 1 1 0 0;arm zy left 1 1 0 0", 1);
        good(throwers(8) + games(20) + "rest 1 0;rest 2 0;rest 3 0;rest 4 0;rest 5 0", 20);
    }

    private static String throwers(int count) {
        StringBuilder text = new StringBuilder();
        for (int t = 0; t < count; t++) {
            text.append("arm ").append((char) ('a' + t)).append(" left 1 1 0 0;");
        }
        return text.toString();
    }

    private static String games(int count) {
        StringBuilder text = new StringBuilder();
        for (int g = 0; g < count; g++) {
            text.append("game ").append(g).append(" 0 1;");
        }
        return text.toString();
    }

    private static void bad(String text, int fault, int place) {
        ThrowArms arms = new ThrowArms();
        Check.equal("text " + text, Check.tell(arms, text), -1);
        Check.equal("trouble of " + text, arms.trouble(), 4);
        Check.equal("fault of " + text, arms.fault(), fault);
        Check.equal("where of " + text, arms.where(), place);
        Check.equal("size behind " + text, arms.size(), 0);
    }

    private static void formFaults() {
        bad("", 1, 0);
        bad("   ", 1, 3);
        bad(";", 1, 0);
        bad(GOOD + ";", 1, 30);
        bad(GOOD + " ;  ", 1, 33);
        bad(GOOD + ";;", 1, 30);
        bad(GOOD + " x", 1, 30);
        bad(GOOD + " 1", 1, 30);
        bad("arma left 1 1 0 0;" + GAME, 1, 0);
        bad("Arm a left 1 1 0 0;" + GAME, 1, 0);
        bad("left;" + GOOD, 1, 0);
        bad("xrm a left 1 1 0 0;" + GAME, 1, 0);
        bad("arx a left 1 1 0 0;" + GAME, 1, 0);
        bad("ar a left 1 1 0 0;" + GAME, 1, 0);
        bad("arm a lift 1 1 0 0;" + GAME, 1, 6);
        bad("arm", 1, 3);
        bad("arm a", 1, 5);
        bad("arm 1 left 1 1 0 0", 1, 4);
        bad("arm a up 1 1 0 0", 1, 6);
        bad("arm a left 1 1 0", 1, 16);
        bad("arm a left 1 1 0;" + GAME, 1, 16);
        bad("arm a left 1 1 0 0 0;" + GAME, 1, 19);
        bad("arm abcdefgh left 1 1 0 0;" + GAME, 1, 4);
        bad("arm a left 0001 1 0 0;" + GAME, 1, 11);
        bad("arm a left 1234567890123 1 0 0;" + GAME, 1, 11);
        bad("arm a left -1 1 0 0;" + GAME, 1, 11);
        bad(ARM + "\t;" + GAME, 1, 18);
        bad(ARM + (char) 0 + ";" + GAME, 1, 18);
        bad(ARM + (char) 0xbb + ";" + GAME, 1, 18);
        bad(ARM + "," + GAME, 1, 18);
        bad(ARM + ";game 0 0", 1, 27);
        bad("week;" + GOOD, 1, 4);
        bad("rest 1;" + GOOD, 1, 6);
        for (String word : "arm left right game rest week edge out".split(" ")) {
            bad("arm " + word + " left 1 1 0 0;" + GAME, 1, 4);
        }
    }

    private static void boundFaults() {
        bad("arm a left 0 1 0 0;" + GAME, 2, 11);
        bad("arm a left 100 1 0 0;" + GAME, 2, 11);
        bad("arm a left 1 0 0 0;" + GAME, 2, 13);
        bad("arm a left 1 121 0 0;" + GAME, 2, 13);
        bad("arm a left 1 5 6 0;" + GAME, 2, 15);
        bad("arm a left 1 1 0 10;" + GAME, 2, 17);
        bad("game 60 0 1;" + ARM, 2, 5);
        bad("game 0 10 1;" + ARM, 2, 7);
        bad("game 0 0 0;" + ARM, 2, 9);
        bad("game 0 0 201;" + ARM, 2, 9);
        bad(GAME + ";game 0 0 1;" + ARM, 2, 16);
        bad("game 5 0 1;game 4 0 1;" + ARM, 2, 16);
        bad("game 59 0 1;game 59 0 1;" + ARM, 2, 17);
        bad("rest 0 1;" + GOOD, 2, 5);
        bad("rest 121 1;" + GOOD, 2, 5);
        bad("rest 1 10;" + GOOD, 2, 7);
        bad("rest 5 1;rest 5 1;" + GOOD, 2, 14);
        bad("rest 5 1;" + GOOD + ";rest 4 1", 2, 44);
        bad("week 501;" + GOOD, 2, 5);
        bad("edge 10;" + GOOD, 2, 5);
        bad("out 0;" + GOOD, 2, 4);
        bad("out 61;" + GOOD, 2, 4);
    }

    private static void twiceFaults() {
        bad(ARM + ";arm b left 1 1 0 0;arm a right 1 1 0 0;" + GAME, 3, 42);
        bad("week 1;week 1;" + GOOD, 3, 7);
        bad("edge 1;" + GOOD + ";edge 2", 3, 37);
        bad("out 1;out", 3, 6);
        bad("week 1;edge 1;out 1;edge 1;" + GOOD, 3, 20);
    }

    private static void tooManyFaults() {
        String eight = throwers(8);
        bad(eight + "arm i left 1 1 0 0;" + GAME, 4, eight.length());
        bad(eight + "arm", 4, eight.length());
        String twenty = ARM + ";" + games(20);
        bad(twenty + "game 59 0 1", 4, twenty.length());
        String five = "rest 1 0;rest 2 0;rest 3 0;rest 4 0;rest 5 0;";
        bad(five + "rest 6 0;" + GOOD, 4, five.length());
    }

    private static void lackingFaults() {
        bad(ARM, 5, 18);
        bad(ARM + "  ", 5, 20);
        bad(GAME, 5, 10);
        bad("week 3", 5, 6);
        bad("rest 3 3;edge 1", 5, 15);
    }

    private static void firstFaultIsTold() {
        bad("arm a left 0 1 ?", 2, 11);
        bad("? arm a left 0", 1, 0);
        bad(ARM + ";arm a left 100 1 0 0", 3, 23);
        bad("arm a left 1 1 0 0;week 501;week", 2, 24);
        bad("edge 1;edge abcdefgh", 3, 7);
    }

    private static void refusedNumbers() {
        ThrowArms arms = new ThrowArms();
        bad("", 1, 0);
        Check.tell(arms, "x");
        Check.equal("fault", arms.fault(), 1);
        Check.feed(arms, GOOD);
        Check.refused("text(-1)", arms, arms.text(-1), 2);
        Check.refused("text(41)", arms, arms.text(41), 2);
        Check.refused("text of the greatest", arms, arms.text(Integer.MAX_VALUE), 2);
        Check.equal("size stays", arms.size(), 40);
        Check.equal("fault stays", arms.fault(), 1);
        Check.answered("text(40)", arms, arms.text(40), 1);
        Check.equal("fault is gone", arms.fault(), 0);
        Check.refused("text(1)", arms, arms.text(1), 2);
        Check.answered("the text stays", arms, arms.about(1), 1);
        Check.equal("text(0) is a text without bytes", arms.text(0), -1);
        Check.equal("its trouble", arms.trouble(), 4);
        Check.equal("its fault", arms.fault(), 1);
        Check.equal("its place", arms.where(), 0);
    }

    private static void faultLeavesTheRest() {
        ThrowArms arms = Check.told("arm a left 9 9 9 9;game 0 0 9;game 3 0 9;week 7");
        arms.put(0, 0, 5, false);
        Check.equal("a fault", Check.tell(arms, "arm b right 1 1 0 0;game 1 1 1;week 9;x"), -1);
        Check.equal("fault", arms.fault(), 1);
        Check.equal("where", arms.where(), 38);
        Check.answered("games stay", arms, arms.about(1), 2);
        Check.equal("outings stay", arms.about(2), 1);
        Check.equal("week stays", arms.about(3), 7);
        Check.equal("acts stay", arms.about(7), 1);
        Check.equal("hand stays", arms.arm(0, 0), 0);
        Check.equal("day stays", arms.game(1, 0), 3);
        Check.feed(arms, "a");
        Check.equal("name stays", arms.named(1), 0);
        Check.answered("undo does", arms, arms.undo(), 0);
        Check.equal("fault stays", arms.fault(), 1);
    }

    private static void textTakesAllAway() {
        String all = "arm a left 9 9 9 9;arm b left 9 9 9 9;game 0 0 9;week 7;edge 3;out 4;rest 1 2";
        ThrowArms arms = Check.told(all);
        arms.put(0, 1, 7, false);
        arms.rule(1, 5);
        Check.feed(arms, GOOD + ";game 7 1 1");
        Check.answered("the first bytes alone", arms, arms.text(29), 1);
        Check.equal("the tape is empty", arms.size(), 0);
        int[] due = {1, 1, 0, 0, 0, 15, 0, 0};
        for (int what = 0; what < due.length; what++) {
            Check.equal("about " + what, arms.about(what), due[what]);
        }
        Check.refused("no act is left", arms, arms.undo(), 5);
        Check.equal("nobody throws", arms.game(0, 4), 1);
        Check.equal("rest", arms.rest(9), 0);
    }

    private static void whereFollowsCalls() {
        ThrowArms arms = new ThrowArms();
        Check.tell(arms, "week x");
        Check.equal("where", arms.where(), 5);
        Check.equal("where again", arms.where(), 5);
        arms.feed(0, 0, 0, 0, 0);
        arms.size();
        arms.fault();
        arms.trouble();
        Check.notNamed("zeros", arms, 20);
        Check.equal("where behind calls that can't be refused", arms.where(), 5);
        Check.equal("trouble behind them", arms.trouble(), 4);
        arms.value();
        Check.equal("where behind another", arms.where(), -1);
        Check.equal("fault stays", arms.fault(), 1);
        Check.equal("its trouble", arms.trouble(), 1);
    }

    private static void names() {
        ThrowArms arms = Check.told("arm ann left 1 1 0 0;arm an right 1 1 0 0;"
            + "arm zzzzzzz left 1 1 0 0;" + GAME);
        arms.arm(9, 0);
        Check.feed(arms, "  ann   ");
        Check.equal("ann", arms.named(8), 0);
        Check.equal("ann to the end", arms.named(20), 0);
        Check.equal("ann alone", arms.named(5), 0);
        Check.equal("an", arms.named(4), 1);
        Check.notNamed("a", arms, 3);
        Check.notNamed("blanks", arms, 2);
        Check.notNamed("no bytes", arms, 0);
        Check.notNamed("below", arms, -1);
        Check.notNamed("beyond", arms, 21);
        Check.notNamed("least", arms, Integer.MIN_VALUE);
        Check.notNamed("greatest", arms, Integer.MAX_VALUE);
        Check.equal("the tape stays", arms.size(), 20);
        Check.equal("trouble stays", arms.trouble(), 1);
        Check.feed(arms, "x");
        Check.notNamed("two words", arms, 21);
        Check.equal("still the first", arms.named(20), 0);
        emptyTape(arms);
        Check.feed(arms, "zzzzzzzz");
        Check.equal("seven letters", arms.named(7), 2);
        Check.notNamed("eight letters", arms, 8);
        emptyTape(arms);
        Check.feed(arms, "ann;");
        Check.notNamed("a name and more", arms, 4);
        emptyTape(arms);
        Check.feed(arms, "ann1");
        Check.notNamed("a name and a digit", arms, 4);
        emptyTape(arms);
        Check.feed(arms, "Ann");
        Check.notNamed("another name", arms, 3);
    }

    private static void emptyTape(ThrowArms arms) {
        arms.text(0);
    }
}
