/** The bounds of promises 12 to 18: points, worth, most, when, ranked, extra, clash. */
public final class EdgeMayTest {
    private static final Edge.Scene LEAST = Edge.scene(Edge.LEAST);
    private static final Edge.Scene SMALL = Edge.scene(Edge.SMALL, x -> x.put(0, 0, 60, false),
        x -> x.put(0, 1, 30, false), x -> x.put(3, 2, 11, false));

    /** Four THROWERS alike, with much to throw. */
    private static final String FOUR = "arm a left 9 50 9 0;arm b left 9 50 9 0;"
        + "arm c left 9 50 9 0;arm d left 9 50 9 0;";

    public static void main(String[] args) {
        noneSuch();
        pointsAtLeast();
        pointsAtMost();
        throwsOfWorth();
        worthAtTires();
        halfDownwards();
        mostByStaminaAndNeed();
        mostOfWhoIsInIt();
        mostWithThreeOutings();
        restOfAnEarlierOne();
        restToALaterOne();
        restOfOneThrow();
        restsOfAllOthers();
        sevenDays();
        sevenDaysOfBothSides();
        boundsOfWeek();
        mostIsTheGreatest();
        throwsOfWhen();
        firstGameOfWhen();
        placesOfRanked();
        orderOfRanked();
        extraInnings();
        throwsOfClash();
        bitsOfClash();
        clashInHisGame();
        Check.end();
    }

    /** "NONE: 1": no TEXT, no such THROWER, no such GAME, whatever else is wrong. */
    private static void noneSuch() {
        for (int n : new int[] {-1, 0, 7, 121, 201, Edge.LOWEST, Edge.HIGHEST}) {
            Edge.refused("points", Edge.noText(), 1, x -> x.points(0, 0));
            Edge.refused("worth", Edge.noText(), 1, x -> x.worth(0, 0, n));
            Edge.refused("most", Edge.noText(), 1, x -> x.most(n, n));
            Edge.refused("when", Edge.noText(), 1, x -> x.when(0, 0, n));
            Edge.refused("ranked", Edge.noText(), 1, x -> x.ranked(0, n));
            Edge.refused("extra", Edge.noText(), 1, x -> x.extra(n));
            Edge.refused("clash", Edge.noText(), 1, x -> x.clash(0, 0, n));
        }
        for (int t : new int[] {-1, 3, 8, Edge.LOWEST, Edge.HIGHEST}) {
            noSuchPair(t, 0);
        }
        for (int g : new int[] {-1, 4, 20, Edge.LOWEST, Edge.HIGHEST}) {
            noSuchPair(0, g);
            Edge.refused("ranked", SMALL, 1, x -> x.ranked(g, 0));
            Edge.refused("extra", SMALL, 1, x -> x.extra(g));
        }
        Edge.asked("the last ones", SMALL, 16, x -> x.points(2, 3));
        Edge.asked("the last ones", SMALL, 16, x -> x.worth(2, 3, 1));
        Edge.asked("the last ones", SMALL, 60, x -> x.most(0, 3));
        Edge.asked("the last ones", Edge.full(), 0, x -> x.most(7, 19));
        Edge.refused("one above", Edge.full(), 1, x -> x.most(8, 19));
        Edge.refused("one above", Edge.full(), 1, x -> x.most(7, 20));
    }

    private static void noSuchPair(int t, int g) {
        Edge.refused("points", SMALL, 1, x -> x.points(t, g));
        Edge.refused("worth", SMALL, 1, x -> x.worth(t, g, 1));
        Edge.refused("worth, ahead of 2", SMALL, 1, x -> x.worth(t, g, -1));
        Edge.refused("most", SMALL, 1, x -> x.most(t, g));
        Edge.refused("when", SMALL, 1, x -> x.when(t, g, 1));
        Edge.refused("when, ahead of 2", SMALL, 1, x -> x.when(t, g, 0));
        Edge.refused("clash", SMALL, 1, x -> x.clash(t, g, 1));
        Edge.refused("clash, ahead of 2", SMALL, 1, x -> x.clash(t, g, 121));
    }

    private static Edge.Scene one(String hand, int strength, int edge, int lefts) {
        return Edge.scene("arm a " + hand + " " + strength + " 120 120 0;game 0 " + lefts
            + " 200;edge " + edge);
    }

    /** "0 at least". */
    private static void pointsAtLeast() {
        Edge.asked("one", one("left", 10, 1, 0), 1, x -> x.points(0, 0));
        Edge.asked("none", one("left", 9, 1, 0), 0, x -> x.points(0, 0));
        Edge.asked("0 at least", one("left", 8, 1, 0), 0, x -> x.points(0, 0));
        Edge.asked("0 at least", one("left", 1, 9, 0), 0, x -> x.points(0, 0));
        Edge.asked("0 at least", one("right", 1, 9, 9), 0, x -> x.points(0, 0));
        Edge.asked("worth nothing", one("right", 1, 9, 9), 0, x -> x.worth(0, 0, 200));
    }

    /** LEFTS 0 and 9, EDGE 0 and 9. */
    private static void pointsAtMost() {
        Edge.asked("all are left", one("left", 99, 9, 9), 180, x -> x.points(0, 0));
        Edge.asked("all are right", one("right", 99, 9, 0), 180, x -> x.points(0, 0));
        Edge.asked("all are left", one("right", 99, 9, 9), 18, x -> x.points(0, 0));
        Edge.asked("all are right", one("left", 99, 9, 0), 18, x -> x.points(0, 0));
        Edge.asked("four of nine", one("left", 50, 9, 4), 41, x -> x.points(0, 0));
        Edge.asked("five of nine", one("left", 50, 9, 5), 59, x -> x.points(0, 0));
        Edge.asked("no EDGE", one("left", 50, 0, 9), 50, x -> x.points(0, 0));
        Edge.asked("no EDGE", one("right", 50, 0, 9), 50, x -> x.points(0, 0));
        Edge.asked("the most", one("left", 99, 9, 9), 120 * 180 + 80 * 90, x -> x.worth(0, 0, 200));
    }

    /** "x throws (0 .. 200, whatever STAMINA is)"; "NONE: 1; 2". */
    private static void throwsOfWorth() {
        for (int wrong : new int[] {-1, 201, Edge.LOWEST, Edge.HIGHEST}) {
            Edge.refused("worth", SMALL, 2, x -> x.worth(0, 0, wrong));
            Edge.refused("worth", LEAST, 2, x -> x.worth(0, 0, wrong));
        }
        Edge.asked("none", SMALL, 0, x -> x.worth(0, 0, 0));
        Edge.asked("one", SMALL, 44, x -> x.worth(0, 0, 1));
        Edge.asked("STAMINA", SMALL, 2200, x -> x.worth(0, 0, 60));
        Edge.asked("above STAMINA", SMALL, 2222, x -> x.worth(0, 0, 61));
        Edge.asked("200", SMALL, 40 * 44 + 160 * 22, x -> x.worth(0, 0, 200));
        Edge.asked("above STAMINA of 1", LEAST, 100, x -> x.worth(0, 0, 200));
    }

    /** "POINTS times x up to TIRES, and half of POINTS times what x is above TIRES". */
    private static void worthAtTires() {
        Edge.asked("below TIRES", SMALL, 79 * 47, x -> x.worth(1, 0, 79));
        Edge.asked("at TIRES", SMALL, 80 * 47, x -> x.worth(1, 0, 80));
        Edge.asked("one above", SMALL, 80 * 47 + 23, x -> x.worth(1, 0, 81));
        Edge.asked("two above", SMALL, 80 * 47 + 47, x -> x.worth(1, 0, 82));
        String text = "arm a left 7 120 120 0;arm b left 7 120 0 0;game 0 0 200";
        Edge.asked("never tired", Edge.scene(text), 7 * 120, x -> x.worth(0, 0, 120));
        Edge.asked("TIRES 0", Edge.scene(text), 7 * 60, x -> x.worth(1, 0, 120));
    }

    /** "downwards". */
    private static void halfDownwards() {
        int[] due = {0, 0, 1, 1, 2, 2};
        for (int n = 0; n < due.length; n++) {
            int throwsAsked = n;
            Edge.asked("half of " + n, LEAST, due[n], x -> x.worth(0, 0, throwsAsked));
        }
        // half of 51 is 25, but half of twice 51 is 51
        Edge.Scene odd = Edge.scene("arm a left 51 60 40 0;game 0 0 90");
        Edge.asked("51 and a half of it", odd, 40 * 51 + 25, x -> x.worth(0, 0, 41));
        Edge.asked("the halves together", odd, 40 * 51 + 51, x -> x.worth(0, 0, 42));
        Edge.asked("the halves together", odd, 40 * 51 + 76, x -> x.worth(0, 0, 43));
    }

    /** "the greatest x up to STAMINA and to what of its NEED nobody throws". */
    private static void mostByStaminaAndNeed() {
        for (int need : new int[] {1, 49, 50, 51, 200}) {
            int due = Math.min(50, need);
            Edge.asked("most", Edge.scene(FOUR + "game 0 0 " + need), due, x -> x.most(0, 0));
        }
        Edge.Scene left = Edge.scene(FOUR + "game 0 0 60", x -> x.put(0, 1, 11, false));
        Edge.asked("what is left", left, 49, x -> x.most(0, 0));
        left = Edge.scene(FOUR + "game 0 0 60", x -> x.put(0, 1, 10, false));
        Edge.asked("what is left", left, 50, x -> x.most(0, 0));
        left = Edge.scene(FOUR + "game 0 0 50", x -> x.put(0, 1, 49, false));
        Edge.asked("one is left", left, 1, x -> x.most(0, 0));
        left = Edge.scene(FOUR + "game 0 0 50", x -> x.put(0, 1, 50, false));
        Edge.asked("nothing is left", left, 0, x -> x.most(0, 0));
        Edge.asked("the least STAMINA", LEAST, 1, x -> x.most(0, 0));
        String strong = "arm a left 9 120 9 0;game 0 0 200";
        Edge.asked("the greatest STAMINA", Edge.scene(strong), 120, x -> x.most(0, 0));
    }

    /** "0, if .. he is in it". */
    private static void mostOfWhoIsInIt() {
        Edge.Scene in = Edge.scene(FOUR + "game 0 0 200;game 1 0 200", x -> x.put(0, 0, 1, false));
        Edge.asked("he is in it", in, 0, x -> x.most(0, 0));
        Edge.asked("another one isn't", in, 50, x -> x.most(1, 0));
        Edge.asked("another GAME", in, 50, x -> x.most(0, 1));
    }

    /** "or it has 3 OUTINGS". */
    private static void mostWithThreeOutings() {
        Edge.Scene two = Edge.scene(FOUR + "game 0 0 200", x -> x.put(0, 0, 1, false),
            x -> x.put(0, 1, 1, false));
        Edge.asked("two OUTINGS", two, 50, x -> x.most(3, 0));
        Edge.Scene three = Edge.scene(FOUR + "game 0 0 200", x -> x.put(0, 0, 1, false),
            x -> x.put(0, 1, 1, false), x -> x.put(0, 2, 1, false));
        Edge.asked("three OUTINGS", three, 0, x -> x.most(3, 0));
    }

    private static String twoGames(int days, String rules) {
        return "arm a left 9 120 9 0;game 10 0 200;game " + (10 + days) + " 0 200;" + rules;
    }

    /** "there are more DAYS than REST of the earlier one's throws from each earlier one to it". */
    private static void restOfAnEarlierOne() {
        for (int rest = 0; rest <= 9; rest++) {
            for (int days = 1; days <= 11; days++) {
                ThrowArms arms = Check.told(twoGames(days, "rest 30 " + rest + ";rest 60 0"));
                arms.put(0, 0, 30, false);
                boolean rested = days > rest;
                Check.answered("clash", arms, arms.clash(0, 1, 1), rested ? 0 : 2);
                Check.answered("most", arms, arms.most(0, 1), rested ? 120 : 0);
                arms.shift(0, 0, 29);
                Check.answered("below FROM", arms, arms.clash(0, 1, 1), 0);
                arms.shift(0, 0, 60);
                Check.answered("from the next FROM on", arms, arms.clash(0, 1, 1), 0);
            }
        }
    }

    /** "and from it to each later one (by its own throws)". */
    private static void restToALaterOne() {
        for (int rest = 0; rest <= 9; rest++) {
            for (int days = 1; days <= 11; days++) {
                ThrowArms arms = Check.told(twoGames(days, "rest 30 " + rest));
                arms.put(1, 0, 1, false);
                boolean rested = days > rest;
                Check.answered("clash", arms, arms.clash(0, 0, 30), rested ? 0 : 4);
                Check.answered("below FROM", arms, arms.clash(0, 0, 29), 0);
                Check.answered("most", arms, arms.most(0, 0), rested ? 120 : 29);
                Check.answered("REST of no later one", arms, arms.clash(0, 1, 120), 0);
            }
        }
    }

    /** FROM 1: one throw asks for rest like others. */
    private static void restOfOneThrow() {
        for (int days = 1; days <= 3; days++) {
            Edge.Scene earlier = Edge.scene(twoGames(days, "rest 1 2"), x -> x.put(0, 0, 1, false));
            Edge.asked("behind it", earlier, days > 2 ? 0 : 2, x -> x.clash(0, 1, 1));
            Edge.asked("behind it", earlier, days > 2 ? 120 : 0, x -> x.most(0, 1));
            Edge.Scene later = Edge.scene(twoGames(days, "rest 1 2"), x -> x.put(1, 0, 1, false));
            Edge.asked("ahead of it", later, days > 2 ? 0 : 4, x -> x.clash(0, 0, 1));
            Edge.asked("ahead of it", later, days > 2 ? 120 : 0, x -> x.most(0, 0));
        }
    }

    /** "each earlier one", "each later one": not the nearest alone, and not of others. */
    private static void restsOfAllOthers() {
        String text = "arm a left 9 120 9 0;arm b left 9 120 9 0;game 0 0 200;game 5 0 200;"
            + "game 9 0 200;game 10 0 200;rest 2 9";
        Edge.Scene scene = Edge.scene(text, x -> x.put(0, 0, 2, false), x -> x.put(1, 0, 1, true));
        Edge.asked("nine DAYS from the first one", scene, 2, x -> x.clash(0, 2, 1));
        Edge.asked("ten DAYS from it", scene, 0, x -> x.clash(0, 3, 1));
        Edge.asked("another one's", scene, 0, x -> x.clash(1, 2, 1));
        scene = Edge.scene(text, x -> x.put(2, 0, 1, false), x -> x.put(3, 0, 1, false));
        Edge.asked("nine DAYS to the next one", scene, 4, x -> x.clash(0, 0, 2));
        scene = Edge.scene(text, x -> x.put(3, 0, 1, false));
        Edge.asked("ten DAYS to it", scene, 0, x -> x.clash(0, 0, 2));
        scene = Edge.scene(text, x -> x.put(1, 1, 120, false));
        Edge.asked("another one's", scene, 0, x -> x.clash(0, 0, 2));
    }

    /** "in no 7 DAYS one behind another that have d among them he throws more than WEEK". */
    private static void sevenDays() {
        for (int days = 1; days <= 10; days++) {
            ThrowArms arms = Check.told(twoGames(days, "week 100"));
            boolean together = days <= 6;
            arms.put(0, 0, 40, false);
            Check.answered("most behind", arms, arms.most(0, 1), together ? 60 : 100);
            Check.answered("clash behind", arms, arms.clash(0, 1, 60), 0);
            Check.answered("clash behind", arms, arms.clash(0, 1, 61), together ? 8 : 0);
            arms.take(0, 0);
            arms.put(1, 0, 40, false);
            Check.answered("most ahead", arms, arms.most(0, 0), together ? 60 : 100);
            Check.answered("clash ahead", arms, arms.clash(0, 0, 60), 0);
            Check.answered("clash ahead", arms, arms.clash(0, 0, 61), together ? 8 : 0);
        }
    }

    /** One ahead and one behind: together in 7 DAYS, if there are no more than 6 between them. */
    private static void sevenDaysOfBothSides() {
        for (int ahead = 1; ahead <= 7; ahead++) {
            for (int behind = 1; behind <= 7; behind++) {
                ThrowArms arms = Check.told("arm a left 9 120 9 0;game " + (20 - ahead)
                    + " 0 200;game 20 0 200;game " + (20 + behind) + " 0 200;week 100");
                arms.put(0, 0, 30, false);
                arms.put(2, 0, 20, false);
                int with = 0;
                with = Math.max(with, ahead <= 6 ? 30 : 0);
                with = Math.max(with, behind <= 6 ? 20 : 0);
                with = Math.max(with, ahead + behind <= 6 ? 50 : 0);
                Check.answered("most", arms, arms.most(0, 1), 100 - with);
                Check.answered("clash", arms, arms.clash(0, 1, 100 - with), 0);
                Check.answered("clash", arms, arms.clash(0, 1, 101 - with), 8);
            }
        }
    }

    /** WEEK 0 "is no bound"; 1 and 500 are; what is above it already leaves nothing. */
    private static void boundsOfWeek() {
        Edge.asked("no bound", Edge.scene(twoGames(1, "week 0"), x -> x.put(0, 0, 120, false)), 120,
            x -> x.most(0, 1));
        Edge.asked("one", Edge.scene(twoGames(1, "week 1")), 1, x -> x.most(0, 1));
        Edge.asked("one is thrown", Edge.scene(twoGames(1, "week 1"), x -> x.put(0, 0, 1, false)), 0,
            x -> x.most(0, 1));
        Edge.asked("above it", Edge.scene(twoGames(1, "week 1"), x -> x.put(0, 0, 120, true)), 0,
            x -> x.most(0, 1));
        Edge.asked("above it", Edge.scene(twoGames(1, "week 1"), x -> x.put(0, 0, 120, true)), 8,
            x -> x.clash(0, 1, 1));
        String text = "arm a left 9 120 9 0;game 0 0 200;game 1 0 200;game 2 0 200;game 3 0 200;"
            + "game 4 0 200;game 59 0 200;week 500";
        Edge.Scene heavy = Edge.scene(text, x -> x.put(0, 0, 120, false),
            x -> x.put(1, 0, 120, false), x -> x.put(2, 0, 120, false), x -> x.put(3, 0, 120, false));
        Edge.asked("500 in all", heavy, 20, x -> x.most(0, 4));
        Edge.asked("500 in all", heavy, 0, x -> x.clash(0, 4, 20));
        Edge.asked("501 in all", heavy, 8, x -> x.clash(0, 4, 21));
        Edge.asked("on the last DAY", heavy, 120, x -> x.most(0, 5));
    }

    /** More throws may ask for less rest: the greatest that would be ALLOWED, not the first. */
    private static void mostIsTheGreatest() {
        String rules = "rest 1 9;rest 40 1;rest 50 9;rest 119 1;rest 120 9";
        Edge.Scene scene = Edge.scene(twoGames(2, rules), x -> x.put(1, 0, 1, false));
        Edge.asked("119 alone of these", scene, 119, x -> x.most(0, 0));
        scene = Edge.scene(twoGames(2, rules), x -> x.put(1, 0, 1, false), x -> x.become(0, 1, 118));
        Edge.asked("49 then", scene, 49, x -> x.most(0, 0));
        scene = Edge.scene(twoGames(2, rules), x -> x.put(1, 0, 1, false), x -> x.become(0, 1, 39));
        Edge.asked("none", scene, 0, x -> x.most(0, 0));
    }

    /** "x (1 .. 120)"; "NONE: 1; 2". */
    private static void throwsOfWhen() {
        for (int wrong : new int[] {0, -1, 121, Edge.LOWEST, Edge.HIGHEST}) {
            Edge.refused("when", SMALL, 2, x -> x.when(0, 0, wrong));
            Edge.refused("when", LEAST, 2, x -> x.when(0, 0, wrong));
        }
        String text = "arm a left 9 120 0 0;game 0 0 1;game 5 0 119;game 9 0 120;game 20 0 200";
        int[][] due = {{0, 1, 0}, {0, 2, 1}, {0, 119, 1}, {0, 120, 2}, {1, 1, 1}, {2, 120, 2},
            {3, 1, 3}, {3, 120, 3}};
        for (int[] row : due) {
            Edge.asked("when", Edge.scene(text), row[2], x -> x.when(0, row[0], row[1]));
        }
    }

    /** "The first GAME from g on ..; -2: there is none". */
    private static void firstGameOfWhen() {
        Edge.asked("one", LEAST, 0, x -> x.when(0, 0, 1));
        Edge.asked("none", LEAST, -2, x -> x.when(0, 0, 2));
        Edge.asked("none", LEAST, -2, x -> x.when(0, 0, 120));
        Edge.asked("he rests", SMALL, 3, x -> x.when(0, 0, 1));
        Edge.asked("up to STAMINA", SMALL, 3, x -> x.when(0, 1, 60));
        Edge.asked("above STAMINA", SMALL, -2, x -> x.when(0, 1, 61));
        Edge.asked("he is in the last GAME", SMALL, -2, x -> x.when(2, 3, 1));
        Edge.asked("full to the last GAME", Edge.full(), -2, x -> x.when(7, 0, 1));
        Edge.asked("the last GAME is the first", Edge.scene(Edge.fullText()), 19,
            x -> x.when(7, 19, 120));
    }

    /** "The i-th THROWER (0: the first)"; "NONE: 1 (i, too)". */
    private static void placesOfRanked() {
        Edge.asked("the only one", LEAST, 0, x -> x.ranked(0, 0));
        Edge.asked("the last one", SMALL, 2, x -> x.ranked(0, 2));
        for (int wrong : new int[] {-1, 8, Edge.LOWEST, Edge.HIGHEST}) {
            Edge.refused("ranked", LEAST, 1, x -> x.ranked(0, wrong));
            Edge.refused("ranked", SMALL, 1, x -> x.ranked(0, wrong));
            Edge.refused("ranked", Edge.full(), 1, x -> x.ranked(0, wrong));
        }
        Edge.refused("no second one", LEAST, 1, x -> x.ranked(0, 1));
        Edge.refused("no fourth one", SMALL, 1, x -> x.ranked(0, 3));
        // nine right ones in GAME 10: right hands are the odd ones
        int[] due = {1, 3, 5, 7, 0, 2, 4, 6};
        for (int i = 0; i < 8; i++) {
            int place = i;
            Edge.asked("ranked " + i, Edge.full(), due[i], x -> x.ranked(10, place));
        }
    }

    /** "by VALUE of the lesser of STAMINA and NEED (ALLOWED or not), .. of like ones by numbers". */
    private static void orderOfRanked() {
        // 60 throws of 10 points; 20 of 30; with NEED of 20 these are 200 and 600
        String two = "arm a left 10 60 60 0;arm b left 30 20 20 0;game 0 0 ";
        int[][] due = {{200, 0}, {61, 0}, {60, 0}, {59, 1}, {20, 1}, {1, 1}};
        for (int[] row : due) {
            Edge.asked("NEED " + row[0], Edge.scene(two + row[0]), row[1], x -> x.ranked(0, 0));
        }
        Edge.Scene tired = Edge.scene(two + "60;game 1 0 60;rest 60 9", x -> x.put(0, 0, 60, false));
        Edge.asked("in it", tired, 0, x -> x.ranked(0, 0));
        Edge.asked("not ALLOWED", tired, 0, x -> x.ranked(1, 0));
    }

    /** "as if it needed 200 more ..; 0 with 3 OUTINGS". */
    private static void extraInnings() {
        Edge.asked("NEED of 1", Edge.scene(FOUR + "game 0 0 1"), 200, x -> x.extra(0));
        Edge.asked("all of it is thrown", Edge.scene(FOUR + "game 0 0 50",
            x -> x.put(0, 2, 50, false)), 150, x -> x.extra(0));
        Edge.asked("two OUTINGS", Edge.scene(FOUR + "game 0 0 50", x -> x.put(0, 2, 1, false),
            x -> x.put(0, 0, 1, false)), 100, x -> x.extra(0));
        Edge.asked("three OUTINGS", Edge.scene(FOUR + "game 0 0 50", x -> x.put(0, 2, 1, false),
            x -> x.put(0, 0, 1, false), x -> x.put(0, 1, 1, false)), 0, x -> x.extra(0));
        Edge.asked("nobody else", Edge.scene(Edge.LEAST, x -> x.put(0, 0, 1, false)), 0,
            x -> x.extra(0));
        Edge.asked("STAMINA of 1", LEAST, 1, x -> x.extra(0));
        Edge.asked("the most", Edge.scene(Edge.fullText()), 8 * 120, x -> x.extra(19));
        // all he may is what the week leaves, for each by himself
        Edge.asked("week", Edge.scene(FOUR + "game 0 0 9;game 6 0 9;week 30",
            x -> x.put(0, 0, 9, false)), 21 + 3 * 30, x -> x.extra(1));
    }

    /** "x throws (1 .. 120)"; "NONE: 1; 2". */
    private static void throwsOfClash() {
        for (int wrong : new int[] {0, -1, 121, Edge.LOWEST, Edge.HIGHEST}) {
            Edge.refused("clash", SMALL, 2, x -> x.clash(0, 0, wrong));
            Edge.refused("clash", LEAST, 2, x -> x.clash(0, 0, wrong));
        }
        Edge.asked("one", LEAST, 0, x -> x.clash(0, 0, 1));
        Edge.asked("above STAMINA", LEAST, 1, x -> x.clash(0, 0, 2));
        Edge.asked("above STAMINA", LEAST, 1, x -> x.clash(0, 0, 120));
        Edge.asked("at STAMINA", Edge.scene(FOUR + "game 0 0 1"), 0, x -> x.clash(0, 0, 50));
        Edge.asked("above", Edge.scene(FOUR + "game 0 0 1"), 1, x -> x.clash(0, 0, 51));
        Edge.asked("three OUTINGS don't matter", Edge.full(), 0, x -> x.clash(7, 1, 115));
    }

    /** Each bit by itself and with all others. */
    private static void bitsOfClash() {
        String text = "arm a left 9 60 9 0;game 0 0 200;game 5 0 200;game 9 0 200;"
            + "rest 20 5;rest 30 4;rest 40 3;week ";
        for (int bits = 0; bits < 16; bits++) {
            boolean stamina = (bits & 1) != 0;
            boolean earlier = (bits & 2) != 0;
            boolean later = (bits & 4) != 0;
            boolean week = (bits & 8) != 0;
            ThrowArms arms = Check.told(text + (week ? 1 : 0));
            // 20 throws ask for more than the 5 DAYS that there are, 19 for none
            arms.put(0, 0, earlier ? 20 : 19, true);
            arms.put(2, 0, 1, true);
            // so do 30 throws with the 4 DAYS to come, and 61 if the last rest is 4, too
            arms.rests(2, later ? 4 : 3);
            int asked = stamina ? 61 : later ? 30 : 19;
            Check.answered("bits " + bits, arms, arms.clash(0, 1, asked), bits);
        }
    }

    /** "those that he has else in THE PLAN": the OUTING that he has there isn't one of these. */
    private static void clashInHisGame() {
        Edge.Scene in = Edge.scene(FOUR + "game 0 0 50;game 1 0 50;week 60;rest 10 9",
            x -> x.put(0, 0, 50, false));
        Edge.asked("as if it weren't there", in, 0, x -> x.clash(0, 0, 50));
        Edge.asked("the next DAY", in, 2, x -> x.clash(0, 1, 9));
        Edge.asked("the next DAY", in, 2 + 8, x -> x.clash(0, 1, 11));
    }
}
