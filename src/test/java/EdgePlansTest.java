/** The bounds of promises 19 to 21 and 41: best, bestOf, pair, laid. */
public final class EdgePlansTest {
    private static final Edge.Scene LEAST = Edge.scene(Edge.LEAST);

    /** Three THROWERS, six GAMES; one OUTING each in the first and the last GAME. */
    private static final String SIX = "arm a left 50 50 50 0;arm b left 40 50 50 0;"
        + "arm c left 30 50 50 0;game 0 4 50;game 1 4 50;game 2 4 50;game 3 4 50;game 4 4 50;"
        + "game 5 4 50;rest 30 1;week 100";
    private static final Edge.Scene PLANNED = Edge.scene(SIX, x -> x.put(0, 2, 7, false),
        x -> x.put(5, 2, 8, false));

    public static void main(String[] args) {
        gamesOfBest();
        countsOfBest();
        notSoManyGames();
        whichIsToldFirst();
        placesOfBestOf();
        lesserOfStaminaAndNeed();
        restAmongThem();
        restOfOthers();
        weekAmongThem();
        weekOfThree();
        asIfThereWereNone();
        nobody();
        likeOnes();
        laidPlaces();
        laidNobody();
        gamesAndWhatsOfPair();
        throwsOfPair();
        needAboveThat();
        pairByStamina();
        pairAllowed();
        pairOfLikeOnes();
        Check.end();
    }

    /** best(), bestOf() of the first one and laid() are refused alike. */
    private static void refused(Edge.Scene scene, int number, int g, int n) {
        Edge.refused("best " + g + " " + n, scene, number, x -> x.best(g, n));
        Edge.refused("bestOf " + g + " " + n, scene, number, x -> x.bestOf(g, n, 0));
        Edge.refused("laid " + g + " " + n, scene, number, x -> x.laid(g, n));
    }

    private static void found(Edge.Scene scene, int g, long sum, int... row) {
        int n = row.length;
        Edge.asked("best " + g + " " + n, scene, sum, x -> x.best(g, n));
        for (int i = 0; i < n; i++) {
            int place = i;
            Edge.asked("bestOf " + g + " " + i, scene, row[i], x -> x.bestOf(g, n, place));
        }
        Edge.acted("laid " + g + " " + n, scene, sum, x -> x.laid(g, n));
    }

    /** "NONE: 1 (GAME)", the first that is told; no TEXT is no GAME. */
    private static void gamesOfBest() {
        for (int wrong : new int[] {-1, 6, 20, Edge.LOWEST, Edge.HIGHEST}) {
            refused(PLANNED, 1, wrong, 1);
            refused(PLANNED, 1, wrong, 5);
        }
        refused(Edge.noText(), 1, 0, 1);
        refused(Edge.noText(), 1, 0, 0);
        refused(LEAST, 1, 1, 1);
        refused(Edge.full(), 1, 20, 1);
    }

    /** "n GAMES (1 .. 5)"; "2 (n)". */
    private static void countsOfBest() {
        for (int wrong : new int[] {0, -1, 6, Edge.LOWEST, Edge.HIGHEST}) {
            refused(PLANNED, 2, 0, wrong);
            refused(LEAST, 2, 0, wrong);
        }
        found(PLANNED, 0, 2500, 0);
        // c's OUTING on DAY 5 is too near for 50 throws on DAY 4
        found(PLANNED, 0, 50 * (50 + 40 + 50 + 30 + 40), 0, 1, 0, 2, 1);
        found(LEAST, 0, 0, 0);
    }

    /** "1 (not so many GAMES from g on)". */
    private static void notSoManyGames() {
        refused(LEAST, 1, 0, 2);
        refused(LEAST, 1, 0, 5);
        for (int g = 0; g < 6; g++) {
            for (int n = 1; n <= 5; n++) {
                if (g + n > 6) {
                    refused(PLANNED, 1, g, n);
                } else {
                    ThrowArms arms = PLANNED.set();
                    Check.isTrue("so many", arms.best(g, n) > 0);
                    Check.equal("trouble", arms.trouble(), 0);
                }
            }
        }
        refused(Edge.full(), 1, 19, 2);
        refused(Edge.full(), 1, 16, 5);
        Check.isTrue("the last five", Edge.full().set().best(15, 5) > 0);
        Check.isTrue("the last one", Edge.full().set().best(19, 1) > 0);
    }

    /** GAME, then n, then how many there are, then i. */
    private static void whichIsToldFirst() {
        refused(PLANNED, 1, -1, 0);
        refused(PLANNED, 1, 6, 6);
        refused(PLANNED, 2, 5, 6);
        refused(PLANNED, 2, 5, 0);
        refused(PLANNED, 2, 5, Edge.HIGHEST);
        Edge.refused("GAME ahead of i", PLANNED, 1, x -> x.bestOf(6, 6, -1));
        Edge.refused("n ahead of i", PLANNED, 2, x -> x.bestOf(0, 6, -1));
        Edge.refused("n ahead of i", PLANNED, 2, x -> x.bestOf(0, 0, 0));
        Edge.refused("too many", PLANNED, 1, x -> x.bestOf(5, 2, 0));
    }

    /** "the i-th of these (0: GAME g)"; "1 (i)". */
    private static void placesOfBestOf() {
        for (int n = 1; n <= 5; n++) {
            int count = n;
            for (int wrong : new int[] {-1, n, n + 1, Edge.LOWEST, Edge.HIGHEST}) {
                Edge.refused("bestOf", PLANNED, 1, x -> x.bestOf(0, count, wrong));
            }
        }
        Edge.asked("the last of five", PLANNED, 1, x -> x.bestOf(0, 5, 4));
    }

    /** "of a THROWER with the lesser of STAMINA and NEED". */
    private static void lesserOfStaminaAndNeed() {
        for (int need : new int[] {1, 49, 50, 51, 200}) {
            Edge.Scene scene = Edge.scene("arm a left 7 50 50 0;game 0 0 " + need);
            found(scene, 0, 7 * Math.min(50, need), 0);
            ThrowArms arms = scene.set();
            arms.laid(0, 1);
            Check.answered("throws", arms, arms.outing(0, 0, 1), Math.min(50, need));
        }
    }

    private static String two(int days, String rules) {
        return "arm a left 7 50 50 0;game 9 0 50;game " + (9 + days) + " 0 50;" + rules;
    }

    /** "all ALLOWED with each other": more DAYS than REST. */
    private static void restAmongThem() {
        for (int rest = 0; rest <= 9; rest++) {
            for (int days = 1; days <= 10; days++) {
                ThrowArms arms = Check.told(two(days, "rest 50 " + rest));
                boolean both = days > rest;
                Check.answered("best", arms, arms.best(0, 2), both ? 700 : 350);
                Check.answered("the first", arms, arms.bestOf(0, 2, 0), 0);
                Check.answered("the second", arms, arms.bestOf(0, 2, 1), both ? 0 : -2);
            }
        }
    }

    /** "and with THE PLAN's others", ahead of the GAMES and behind them. */
    private static void restOfOthers() {
        for (int days = 1; days <= 5; days++) {
            ThrowArms arms = Check.told(two(days, "rest 50 3"));
            arms.put(0, 0, 50, false);
            Check.answered("behind", arms, arms.best(1, 1), days > 3 ? 350 : 0);
            Check.answered("of both", arms, arms.best(0, 2), days > 3 ? 700 : 350);
            arms = Check.told(two(days, "rest 50 3"));
            arms.put(1, 0, 1, false);
            Check.answered("ahead", arms, arms.best(0, 1), days > 3 ? 350 : 0);
            Check.answered("who", arms, arms.bestOf(0, 1, 0), days > 3 ? 0 : -2);
        }
    }

    /** WEEK, among them and with others: up to it, not above. */
    private static void weekAmongThem() {
        for (int week : new int[] {49, 50, 99, 100}) {
            for (int days : new int[] {1, 6, 7}) {
                ThrowArms arms = Check.told(two(days, "week " + week));
                int each = week < 50 ? 0 : 350;
                int both = week < 100 && days < 7 ? each : 2 * each;
                Check.answered("best", arms, arms.best(0, 2), both);
                arms.put(0, 0, 50, true);
                boolean fits = week >= 100 || week >= 50 && days > 6;
                Check.answered("with another", arms, arms.best(1, 1), fits ? 350 : 0);
            }
        }
    }

    /** Of three in one week two are too many, if WEEK is one less; the one between doesn't count. */
    private static void weekOfThree() {
        String three = "arm a left 7 50 50 0;game 0 0 50;game 1 0 50;game 2 0 50;week ";
        found(Edge.scene(three + 99), 0, 350, 0, -2, -2);
        found(Edge.scene(three + 100), 0, 700, 0, 0, -2);
        found(Edge.scene(three + 149), 0, 700, 0, 0, -2);
        found(Edge.scene(three + 150), 0, 1050, 0, 0, 0);
    }

    /** "as if these had no OUTINGS", be they three, be they of the same THROWER. */
    private static void asIfThereWereNone() {
        Edge.Scene scene = Edge.scene(SIX, x -> x.put(1, 0, 10, false), x -> x.put(1, 1, 10, false),
            x -> x.put(1, 2, 30, false), x -> x.put(2, 0, 50, false));
        // a throws on the next DAY, and 50 throws ask for one of rest
        found(scene, 1, 2000, 1);
        found(scene, 1, 2500 + 2000, 0, 1);
        ThrowArms arms = scene.set();
        arms.laid(1, 1);
        Check.answered("one in place of three", arms, arms.game(1, 3), 1);
        Check.answered("the other GAME stays", arms, arms.outing(2, 0, 1), 50);
    }

    /** "each gets one OUTING at most": -2 nobody, and VALUES of none are 0. */
    private static void nobody() {
        Edge.Scene scene = Edge.scene("arm a left 7 50 50 0;game 0 0 50;game 1 0 50;game 2 0 50;"
            + "game 3 0 50;game 4 0 50;week 49");
        found(scene, 0, 0, -2, -2, -2, -2, -2);
        found(scene, 4, 0, -2);
        scene = Edge.scene("arm a left 7 50 50 0;game 0 0 50;game 1 0 49;game 2 0 50;week 49");
        found(scene, 0, 343, -2, 0, -2);
    }

    /** "of like ones the first row (.. the least THROWER; nobody is behind all of them)". */
    private static void likeOnes() {
        String alike = "arm a left 7 50 50 0;arm b left 7 50 50 0;game 0 0 50;game 1 0 50;"
            + "game 2 0 50;";
        found(Edge.scene(alike + "week 0"), 0, 3 * 350, 0, 0, 0);
        found(Edge.scene(alike + "rest 50 1"), 0, 3 * 350, 0, 1, 0);
        found(Edge.scene(alike + "rest 50 2"), 0, 2 * 350, 0, 1, -2);
        found(Edge.scene(alike + "week 50"), 0, 2 * 350, 0, 1, -2);
        // no POINTS: he is ahead of nobody all the same
        found(Edge.scene("arm a left 9 50 50 0;game 0 0 50;game 1 0 50;edge 1;week 50"), 0, 0, 0, -2);
    }

    /** "in THE PLAN in place of their OUTINGS": others stay, one ACT. */
    private static void laidPlaces() {
        ThrowArms arms = PLANNED.set();
        Check.answered("laid", arms, arms.laid(0, 5), 50 * (50 + 40 + 50 + 30 + 40));
        int[] due = {0, 1, 0, 2, 1};
        for (int g = 0; g < 5; g++) {
            Check.answered("one OUTING", arms, arms.game(g, 3), 1);
            Check.answered("who", arms, arms.outing(g, 0, 0), due[g]);
            Check.answered("ALLOWED", arms, arms.outing(g, 0, 4), 1);
        }
        Check.answered("behind them it stays", arms, arms.outing(5, 0, 1), 8);
        Check.answered("one ACT more", arms, arms.about(7), 3);
    }

    /** With nobody a GAME that had OUTINGS has none then. */
    private static void laidNobody() {
        Edge.Scene scene = Edge.scene("arm a left 7 50 50 0;game 0 0 50;week 49",
            x -> x.put(0, 0, 49, false));
        Edge.acted("laid", scene, 0, x -> x.laid(0, 1));
        ThrowArms arms = scene.set();
        arms.laid(0, 1);
        Check.answered("none", arms, arms.game(0, 3), 0);
        Check.answered("two ACTS", arms, arms.about(7), 2);
    }

    /** "NONE: 1 (what, too); 2 (o)". */
    private static void gamesAndWhatsOfPair() {
        for (int wrong : new int[] {-1, 6, 20, Edge.LOWEST, Edge.HIGHEST}) {
            Edge.refused("GAME", PLANNED, 1, x -> x.pair(wrong, 1, 0));
            Edge.refused("GAME ahead of o", PLANNED, 1, x -> x.pair(wrong, 0, 0));
        }
        for (int wrong : new int[] {-1, 3, Edge.LOWEST, Edge.HIGHEST}) {
            Edge.refused("what", PLANNED, 1, x -> x.pair(0, 1, wrong));
            Edge.refused("what ahead of o", PLANNED, 1, x -> x.pair(0, 0, wrong));
            Edge.refused("what ahead of o", PLANNED, 1, x -> x.pair(0, 121, wrong));
        }
        for (int wrong : new int[] {0, -1, 121, Edge.LOWEST, Edge.HIGHEST}) {
            Edge.refused("o", PLANNED, 2, x -> x.pair(0, wrong, 0));
            Edge.refused("o", PLANNED, 2, x -> x.pair(5, wrong, 2));
            Edge.refused("no TEXT ahead of o", Edge.noText(), 1, x -> x.pair(0, wrong, 0));
        }
        Edge.refused("no TEXT", Edge.noText(), 1, x -> x.pair(0, 1, 0));
    }

    private static void paired(Edge.Scene scene, int o, int... due) {
        for (int what = 0; what < 3; what++) {
            int which = what;
            Edge.asked("pair " + o + " " + what, scene, due[what], x -> x.pair(0, o, which));
        }
    }

    /** "o (1 .. 120)": ONE throws the least of o, his STAMINA, NEED. */
    private static void throwsOfPair() {
        Edge.Scene scene = Edge.scene("arm a left 10 120 120 0;arm b left 9 120 120 0;game 0 0 200");
        paired(scene, 1, 1 * 9 + 120 * 10, 1, 0);
        paired(scene, 80, 80 * 9 + 120 * 10, 1, 0);
        paired(scene, 119, 119 * 10 + 81 * 9, 0, 1);
        paired(scene, 120, 120 * 10 + 80 * 9, 0, 1);
        scene = Edge.scene("arm a left 10 30 30 0;arm b left 9 30 30 0;game 0 0 200");
        paired(scene, 30, 300 + 270, 0, 1);
        paired(scene, 29, 300 + 29 * 9, 1, 0);
        paired(scene, 31, 300 + 270, 0, 1);
    }

    /** "what NEED is above that (it must be above 0)"; "-2: there is none". */
    private static void needAboveThat() {
        String two = "arm a left 10 120 120 0;arm b left 9 120 120 0;game 0 0 ";
        paired(Edge.scene(two + "1"), 1, -2, -2, -2);
        paired(Edge.scene(two + "1"), 120, -2, -2, -2);
        paired(Edge.scene(two + "2"), 1, 19, 0, 1);
        paired(Edge.scene(two + "2"), 2, -2, -2, -2);
        paired(Edge.scene(two + "120"), 119, 119 * 10 + 9, 0, 1);
        paired(Edge.scene(two + "120"), 120, -2, -2, -2);
        paired(Edge.scene(two + "121"), 120, 120 * 10 + 9, 0, 1);
        paired(Edge.scene("arm a left 10 120 120 0;game 0 0 200"), 60, -2, -2, -2);
    }

    /** ONE by whose STAMINA something is left may be so, though o is as much as NEED. */
    private static void pairByStamina() {
        Edge.Scene scene = Edge.scene("arm a left 50 120 120 0;arm b left 9 29 29 0;game 0 0 30");
        paired(scene, 30, 29 * 9 + 50, 1, 0);
        paired(scene, 29, 29 * 50 + 9, 0, 1);
        paired(scene, 1, 9 + 29 * 50, 1, 0);
        scene = Edge.scene("arm a left 50 1 1 0;arm b left 9 1 1 0;game 0 0 200");
        paired(scene, 120, 59, 0, 1);
    }

    /** "both ALLOWED with THE PLAN's others"; "as if it had no OUTINGS". */
    private static void pairAllowed() {
        for (int days = 3; days <= 5; days++) {
            String text = "arm a left 10 60 60 0;arm b left 9 60 60 0;arm c left 1 60 60 0;"
                + "game 0 0 60;game " + days + " 0 60;rest 31 4";
            // the later one is too near for 31 throws with four DAYS or fewer
            Edge.Scene scene = Edge.scene(text, x -> x.put(1, 0, 1, false));
            paired(scene, 30, 570, 0, 1);
            boolean near = days <= 4;
            paired(scene, 31, near ? 31 * 9 + 290 : 310 + 29 * 9, near ? 1 : 0, near ? 0 : 1);
            paired(scene, 29, near ? 29 * 10 + 31 * 9 : 29 * 9 + 310, near ? 0 : 1, near ? 1 : 0);
        }
        Edge.Scene full = Edge.scene("arm a left 10 30 30 0;arm b left 9 30 30 0;"
            + "arm c left 1 30 30 0;game 0 0 60;week 30", x -> x.put(0, 0, 20, false),
            x -> x.put(0, 1, 20, false), x -> x.put(0, 2, 20, false));
        paired(full, 30, 570, 0, 1);
        Edge.Scene week = Edge.scene("arm a left 10 30 30 0;arm b left 9 30 30 0;"
            + "arm c left 1 30 30 0;game 0 0 60;week 29");
        paired(week, 30, -2, -2, -2);
        // 29 are ALLOWED, but the other one would throw 30
        paired(week, 29, -2, -2, -2);
    }

    /** "of like ones the least ONE, then the least OTHER". */
    private static void pairOfLikeOnes() {
        String three = "arm a left 9 30 30 0;arm b left 9 30 30 0;arm c left 9 30 30 0;game 0 0 60";
        paired(Edge.scene(three), 30, 540, 0, 1);
        paired(Edge.scene(three), 1, 31 * 9, 0, 1);
        paired(Edge.scene(three, x -> x.become(0, 0, 8)), 30, 540, 1, 2);
        paired(Edge.scene(three, x -> x.become(1, 0, 8)), 30, 540, 0, 2);
        // no POINTS: a PAIR all the same
        paired(Edge.scene(three + ";edge 1"), 30, 0, 0, 1);
    }
}
