/** Promises 19 to 21 (best, bestOf, pair) and 41 (laid). */
public final class PlansTest {
    /** POINTS are 44 68 32 52 of ann, 47 23 59 39 of bob, 24 0 36 16 of cy. */
    private static final String TEXT = "arm ann left 50 60 40 2;arm bob right 41 100 80 0;"
        + "arm cy right 18 20 10 9;game 0 3 90;game 2 9 50;game 3 0 20;game 10 5 120;"
        + "rest 20 1;rest 50 3;week 100;edge 2";

    private static final String ALIKE = "arm a left 5 10 10 0;arm b right 5 10 10 0;"
        + "arm c left 5 10 10 0;";

    public static void main(String[] args) {
        bests();
        bestRefusals();
        bestByOthers();
        bestOfAlone();
        bestOfLikeOnes();
        bestWithNobody();
        bestOfFive();
        worthless();
        pairs();
        pairsOfLikeOnes();
        laidPlans();
        Check.end();
    }

    private static void row(ThrowArms arms, int g, int sum, int... due) {
        Check.answered("best", arms, arms.best(g, due.length), sum);
        for (int i = 0; i < due.length; i++) {
            Check.answered("bestOf " + i, arms, arms.bestOf(g, due.length, i), due[i]);
        }
    }

    private static void bests() {
        ThrowArms arms = Check.told(TEXT);
        row(arms, 0, 3760 + 235, 1);
        row(arms, 1, 40 * 68 + 10 * 34, 0);
        row(arms, 2, 20 * 59, 1);
        row(arms, 3, 80 * 39 + 20 * 39 / 2, 1);
        // bob's 90 ask for three days, so game 2 needs another one, and ann has her 50
        row(arms, 0, 3995 + 3060 + 540, 1, 0, 2);
        row(arms, 0, 3995 + 3060 + 540 + 3510, 1, 0, 2, 1);
        Check.answered("the plan stays", arms, arms.about(2), 0);
        Check.answered("no act", arms, arms.about(7), 0);
    }

    private static void bestRefusals() {
        ThrowArms arms = Check.told(TEXT);
        for (int wrong : new int[] {-1, 4, Integer.MIN_VALUE, Integer.MAX_VALUE}) {
            Check.refused("best", arms, arms.best(wrong, 0), 1);
            Check.refused("bestOf", arms, arms.bestOf(wrong, 0, 0), 1);
            Check.refused("laid", arms, arms.laid(wrong, 0), 1);
        }
        for (int wrong : new int[] {0, -1, 6, Integer.MIN_VALUE, Integer.MAX_VALUE}) {
            Check.refused("best", arms, arms.best(3, wrong), 2);
            Check.refused("bestOf", arms, arms.bestOf(3, wrong, -1), 2);
            Check.refused("laid", arms, arms.laid(3, wrong), 2);
        }
        Check.refused("not so many", arms, arms.best(0, 5), 1);
        Check.refused("not so many", arms, arms.best(3, 2), 1);
        Check.refused("not so many", arms, arms.bestOf(3, 2, 0), 1);
        Check.refused("not so many", arms, arms.laid(1, 4), 1);
        Check.refused("bestOf i", arms, arms.bestOf(0, 2, 2), 1);
        Check.refused("bestOf i", arms, arms.bestOf(0, 2, -1), 1);
        Check.answered("nothing was done", arms, arms.about(7), 0);
    }

    /** Outings of other games stay, those of the same ones are as if there were none. */
    private static void bestByOthers() {
        ThrowArms arms = Check.told(TEXT);
        arms.put(1, 0, 50, false);
        arms.put(0, 2, 20, false);
        row(arms, 0, 3995, 1);
        row(arms, 1, 3060, 0);
        row(arms, 2, 20 * 59, 1);
        arms.put(0, 1, 60, false);
        row(arms, 2, 540, 2);
        row(arms, 1, 3060 + 540, 0, 2);
        row(arms, 0, 3995 + 3060 + 540, 1, 0, 2);
        arms.put(3, 1, 100, false);
        row(arms, 3, 3510, 1);
        arms.rests(1, 9);
        row(arms, 0, 3995 + 3060, 1, 0);
        // bob's 100 are too many for the week, and ann's 50 ask for more than eight days
        arms.rule(0, 99);
        row(arms, 3, 10 * 16 + 10 * 8, 2);
    }

    /** Each call finds its own row. */
    private static void bestOfAlone() {
        ThrowArms arms = Check.told(TEXT);
        Check.answered("bestOf", arms, arms.bestOf(0, 1, 0), 1);
        Check.answered("bestOf", arms, arms.bestOf(1, 2, 0), 0);
        Check.answered("bestOf", arms, arms.bestOf(1, 2, 1), 1);
        Check.answered("laid", arms, arms.laid(3, 1), 3510);
        Check.answered("bestOf", arms, arms.bestOf(0, 3, 2), 2);
        Check.answered("best", arms, arms.best(2, 1), 1180);
    }

    private static void bestOfLikeOnes() {
        ThrowArms arms = Check.told(ALIKE + "game 0 4 10;game 1 4 10;game 2 4 10");
        row(arms, 0, 150, 0, 0, 0);
        arms = Check.told(ALIKE + "game 0 4 10;game 1 4 10;game 2 4 10;rest 1 1");
        row(arms, 0, 150, 0, 1, 0);
        arms = Check.told(ALIKE + "game 0 4 10;game 1 4 10;game 2 4 10;rest 1 2");
        row(arms, 0, 150, 0, 1, 2);
        arms = Check.told(ALIKE + "game 0 4 10;game 1 4 10;game 2 4 10;week 20");
        row(arms, 0, 150, 0, 0, 1);
    }

    private static void bestWithNobody() {
        ThrowArms arms = Check.told("arm a left 5 10 10 0;game 0 4 10;game 1 4 10;game 2 4 10;"
            + "game 3 4 10;rest 10 2");
        row(arms, 0, 100, 0, -2, -2, 0);
        row(arms, 0, 50, 0, -2, -2);
        row(arms, 0, 50, 0, -2);
        arms.put(2, 0, 10, false);
        row(arms, 0, 0, -2, -2);
        arms.rule(0, 5);
        row(arms, 0, 0, -2, -2, -2, -2);
    }

    private static void bestOfFive() {
        ThrowArms arms = Check.told("arm a left 50 50 50 0;arm b left 40 50 50 0;"
            + "arm c left 30 50 50 0;game 0 4 50;game 1 4 50;game 2 4 50;game 3 4 50;game 4 4 50;"
            + "game 5 4 50;rest 30 1;week 100");
        // a throws twice in seven days, b twice, c once; nobody on days one behind another
        row(arms, 0, 50 * (50 + 40 + 50 + 40 + 30), 0, 1, 0, 1, 2);
        row(arms, 1, 50 * (50 + 40 + 50 + 40 + 30), 0, 1, 0, 1, 2);
        arms.put(5, 0, 50, false);
        row(arms, 0, 50 * (50 + 40 + 30 + 40 + 30), 0, 1, 2, 1, 2);
    }

    /** One whose outing is worth nothing is ahead of nobody. */
    private static void worthless() {
        ThrowArms arms = Check.told("arm a right 9 10 10 0;game 0 9 10;game 1 9 10;edge 1;week 10");
        Check.equal("points", arms.points(0, 0), 0);
        row(arms, 0, 0, 0, -2);
        Check.answered("fill does it, too", arms, arms.fill(1), 1);
        row(arms, 0, 0, -2);
    }

    private static void pair(ThrowArms arms, int g, int o, int... due) {
        for (int what = 0; what < 3; what++) {
            Check.answered("pair " + g + " " + o, arms, arms.pair(g, o, what), due[what]);
        }
    }

    private static void pairs() {
        ThrowArms arms = Check.told(TEXT);
        pair(arms, 0, 30, 30 * 44 + 60 * 47, 0, 1);
        pair(arms, 0, 60, 60 * 47 + 30 * 44, 1, 0);
        pair(arms, 0, 1, 44 + 80 * 47 + 9 * 47 / 2, 0, 1);
        pair(arms, 1, 120, 20 * 0 + 30 * 68, 2, 0);
        pair(arms, 2, 20, -2, -2, -2);
        pair(arms, 2, 19, 19 * 59 + 36, 1, 2);
        arms.put(0, 1, 90, false);
        pair(arms, 0, 30, 30 * 44 + 60 * 47, 0, 1);
        pair(arms, 2, 19, 19 * 32 + 36, 0, 2);
        arms.put(1, 0, 50, false);
        pair(arms, 2, 19, -2, -2, -2);
        for (int wrong : new int[] {0, -1, 121, Integer.MIN_VALUE, Integer.MAX_VALUE}) {
            Check.refused("pair", arms, arms.pair(0, wrong, 0), 2);
            Check.refused("pair of a game", arms, arms.pair(-1, wrong, 0), 1);
            Check.refused("pair what", arms, arms.pair(0, wrong, 3), 1);
            Check.refused("pair what", arms, arms.pair(0, wrong, -1), 1);
            Check.refused("pair of a game", arms, arms.pair(4, 1, 0), 1);
        }
    }

    private static void pairsOfLikeOnes() {
        ThrowArms arms = Check.told(ALIKE + "game 0 4 20;game 1 4 9");
        arms.become(0, 0, 4);
        pair(arms, 0, 10, 100, 1, 2);
        pair(arms, 0, 1, 55, 1, 2);
        pair(arms, 1, 9, -2, -2, -2);
        pair(arms, 1, 8, 45, 1, 2);
        arms.become(0, 0, 5);
        pair(arms, 0, 10, 100, 0, 1);
        arms = Check.told("arm a left 5 10 10 0;game 0 4 20");
        pair(arms, 0, 5, -2, -2, -2);
    }

    private static void laidPlans() {
        ThrowArms arms = Check.told(TEXT);
        arms.put(0, 2, 7, false);
        arms.put(0, 0, 7, false);
        arms.put(3, 0, 7, false);
        Check.answered("laid", arms, arms.laid(0, 3), 3995 + 3060 + 540);
        int[][] due = {{1, 90}, {0, 50}, {2, 20}, {0, 7}};
        for (int g = 0; g < due.length; g++) {
            Check.answered("one outing", arms, arms.game(g, 3), 1);
            Check.answered("of him", arms, arms.outing(g, 0, 0), due[g][0]);
            Check.answered("with these throws", arms, arms.outing(g, 0, 1), due[g][1]);
            Check.answered("allowed", arms, arms.outing(g, 0, 4), 1);
        }
        Check.answered("an act", arms, arms.about(7), 4);
        Check.answered("undone", arms, arms.undo(), 3);
        Check.answered("as it was", arms, arms.game(0, 3), 2);
        Check.answered("as it was", arms, arms.outing(0, 0, 0), 2);
        Check.answered("as it was", arms, arms.outing(0, 1, 1), 7);
        Check.answered("as it was", arms, arms.game(1, 3), 0);
        arms = Check.told("arm a left 5 10 10 0;game 0 4 10;game 1 4 10;rest 10 2");
        arms.put(1, 0, 3, false);
        Check.answered("laid with nobody", arms, arms.laid(0, 2), 50);
        Check.answered("one", arms, arms.game(0, 3), 1);
        Check.answered("nobody", arms, arms.game(1, 3), 0);
    }
}
