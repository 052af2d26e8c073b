/** Promises 6 to 11 (about, arm, game, rest, outing, value) and 12 to 18 (who may). */
public final class ToldTest {
    /** Nine batters are lefts and rights: POINTS are 44 68 32 52, 47 23 59 39, 24 0 36 16. */
    private static final String TEXT = "arm ann left 50 60 40 2;arm bob right 41 100 80 0;"
        + "arm cy right 18 20 10 9;game 0 3 90;game 2 9 50;game 3 0 20;game 10 5 120;"
        + "rest 20 1;rest 50 3;week 100;edge 2";

    public static void main(String[] args) {
        told();
        refusals();
        outings();
        pointsAndWorth();
        mosts();
        mostWithLessRest();
        oneThrow();
        whens();
        ranks();
        extras();
        clashes();
        weeks();
        Check.end();
    }

    private static void told() {
        ThrowArms arms = Check.told(TEXT);
        int[] about = {3, 4, 0, 100, 2, 15, 2, 0};
        for (int what = 0; what < about.length; what++) {
            Check.answered("about " + what, arms, arms.about(what), about[what]);
        }
        int[][] throwers = {{0, 50, 60, 40, 2, 0, 0, 0}, {1, 41, 100, 80, 0, 0, 0, 0},
            {1, 18, 20, 10, 9, 0, 0, 0}};
        for (int t = 0; t < throwers.length; t++) {
            for (int what = 0; what < 8; what++) {
                Check.answered("arm", arms, arms.arm(t, what), throwers[t][what]);
            }
        }
        int[][] games = {{0, 3, 90}, {2, 9, 50}, {3, 0, 20}, {10, 5, 120}};
        for (int g = 0; g < games.length; g++) {
            for (int what = 0; what < 3; what++) {
                Check.answered("game", arms, arms.game(g, what), games[g][what]);
            }
            Check.answered("no outing", arms, arms.game(g, 3), 0);
            Check.answered("all is left", arms, arms.game(g, 4), games[g][2]);
            Check.answered("no value", arms, arms.game(g, 5), 0);
        }
        int[][] rests = {{0, 0}, {19, 0}, {20, 1}, {49, 1}, {50, 3}, {120, 3}, {200, 3}};
        for (int[] rest : rests) {
            Check.answered("rest " + rest[0], arms, arms.rest(rest[0]), rest[1]);
        }
        Check.answered("value", arms, arms.value(), 0);
    }

    private static void refusals() {
        ThrowArms arms = Check.told(TEXT);
        for (int wrong : new int[] {-1, 8, Integer.MIN_VALUE, Integer.MAX_VALUE}) {
            Check.refused("about", arms, arms.about(wrong), 1);
            Check.refused("arm", arms, arms.arm(wrong, 0), 1);
            Check.refused("arm", arms, arms.arm(0, wrong), 1);
            Check.refused("game", arms, arms.game(wrong, 0), 1);
            Check.refused("game", arms, arms.game(0, wrong), 1);
            Check.refused("points", arms, arms.points(wrong, 0), 1);
            Check.refused("points", arms, arms.points(0, wrong), 1);
            Check.refused("worth", arms, arms.worth(wrong, 0, -1), 1);
            Check.refused("worth", arms, arms.worth(0, wrong, -1), 1);
            Check.refused("most", arms, arms.most(wrong, 0), 1);
            Check.refused("most", arms, arms.most(0, wrong), 1);
            Check.refused("when", arms, arms.when(wrong, 0, -1), 1);
            Check.refused("when", arms, arms.when(0, wrong, -1), 1);
            Check.refused("ranked", arms, arms.ranked(wrong, 0), 1);
            Check.refused("ranked", arms, arms.ranked(0, wrong), 1);
            Check.refused("extra", arms, arms.extra(wrong), 1);
            Check.refused("clash", arms, arms.clash(wrong, 0, -1), 1);
            Check.refused("clash", arms, arms.clash(0, wrong, -1), 1);
            Check.refused("outing", arms, arms.outing(wrong, 0, 0), 1);
            Check.refused("outing", arms, arms.outing(0, wrong, 0), 1);
        }
        Check.refused("a fourth thrower", arms, arms.arm(3, 0), 1);
        Check.refused("a fifth game", arms, arms.game(4, 0), 1);
        Check.refused("game 6", arms, arms.game(0, 6), 1);
        Check.refused("a fourth in rank", arms, arms.ranked(0, 3), 1);
        for (int wrong : new int[] {-1, 201, Integer.MIN_VALUE, Integer.MAX_VALUE}) {
            Check.refused("rest", arms, arms.rest(wrong), 2);
            Check.refused("worth", arms, arms.worth(0, 0, wrong), 2);
        }
        for (int wrong : new int[] {0, -1, 121, Integer.MIN_VALUE, Integer.MAX_VALUE}) {
            Check.refused("when", arms, arms.when(0, 0, wrong), 2);
            Check.refused("clash", arms, arms.clash(0, 0, wrong), 2);
        }
    }

    private static void outings() {
        ThrowArms arms = Check.told(TEXT);
        arms.put(0, 0, 55, false);
        arms.put(0, 2, 13, false);
        arms.put(3, 0, 11, false);
        int[][] due = {{0, 55, 2090, 30, 1}, {2, 13, 276, 27, 1}};
        for (int k = 0; k < due.length; k++) {
            for (int what = 0; what < 5; what++) {
                Check.answered("outing", arms, arms.outing(0, k, what), due[k][what]);
            }
        }
        Check.refused("a third", arms, arms.outing(0, 2, 0), 1);
        Check.refused("below", arms, arms.outing(0, -1, 0), 1);
        Check.refused("what", arms, arms.outing(0, 0, 5), 1);
        Check.refused("what below", arms, arms.outing(0, 0, -1), 1);
        Check.answered("outings", arms, arms.about(2), 3);
        Check.answered("his throws", arms, arms.arm(0, 5), 66);
        Check.answered("his outings", arms, arms.arm(0, 6), 2);
        Check.answered("his values", arms, arms.arm(0, 7), 2090 + 11 * 52);
        Check.answered("of a game", arms, arms.game(0, 3), 2);
        Check.answered("what is left", arms, arms.game(0, 4), 22);
        Check.answered("its values", arms, arms.game(0, 5), 2366);
        Check.answered("all values", arms, arms.value(), 2366 + 572);
        arms.put(1, 0, 5, true);
        Check.answered("not allowed", arms, arms.outing(1, 0, 4), 0);
        Check.answered("so the one ahead", arms, arms.outing(0, 0, 4), 0);
        Check.answered("the later one is", arms, arms.outing(3, 0, 4), 1);
        Check.answered("acts", arms, arms.about(7), 4);
    }

    private static void pointsAndWorth() {
        ThrowArms arms = Check.told(TEXT);
        int[][] points = {{44, 68, 32, 52}, {47, 23, 59, 39}, {24, 0, 36, 16}};
        for (int t = 0; t < points.length; t++) {
            for (int g = 0; g < 4; g++) {
                Check.answered("points", arms, arms.points(t, g), points[t][g]);
            }
        }
        int[][] worth = {{0, 0}, {1, 47}, {80, 3760}, {81, 3783}, {82, 3807}, {83, 3830},
            {200, 6580}};
        for (int[] row : worth) {
            Check.answered("worth " + row[0], arms, arms.worth(1, 0, row[0]), row[1]);
        }
        Check.answered("no points", arms, arms.worth(2, 1, 20), 0);
        arms.rule(1, 9);
        Check.answered("0 at least", arms, arms.points(2, 3), 9);
        Check.answered("0 at least", arms, arms.points(2, 1), 0);
        Check.answered("with more edge", arms, arms.points(0, 1), 131);
    }

    private static void mosts() {
        ThrowArms arms = Check.told(TEXT);
        Check.answered("by stamina", arms, arms.most(0, 0), 60);
        Check.answered("by need", arms, arms.most(1, 0), 90);
        Check.answered("by need", arms, arms.most(1, 2), 20);
        Check.answered("by week", arms, arms.most(1, 3), 100);
        arms.put(0, 0, 50, false);
        Check.answered("he is in it", arms, arms.most(0, 0), 0);
        Check.answered("what is left", arms, arms.most(1, 0), 40);
        Check.answered("rest of three days", arms, arms.most(0, 1), 0);
        Check.answered("three days aren't more", arms, arms.most(0, 2), 0);
        arms.put(0, 1, 40, false);
        Check.answered("nothing is left", arms, arms.most(2, 0), 0);
        Check.answered("two days are more than one", arms, arms.most(1, 1), 50);
        arms.put(3, 1, 100, false);
        Check.answered("within the week", arms, arms.most(1, 2), 20);
        arms.take(0, 0);
        arms.take(0, 0);
        arms.put(1, 1, 30, false);
        Check.answered("own rest to a later one", arms, arms.most(1, 0), 49);
        arms.put(0, 0, 1, false);
        arms.put(0, 2, 1, false);
        Check.answered("a place is left", arms, arms.most(1, 0), 49);
        arms.put(0, 1, 1, false);
        Check.answered("three outings", arms, arms.most(1, 0), 0);
    }

    /** More throws may ask for fewer days of rest. */
    private static void mostWithLessRest() {
        ThrowArms arms = Check.told("arm a left 9 60 60 0;arm b left 9 39 0 0;game 0 0 90;"
            + "game 2 0 90;rest 10 5;rest 40 1;rest 50 2");
        arms.put(1, 0, 5, false);
        arms.put(1, 1, 5, false);
        Check.answered("the middle one", arms, arms.most(0, 0), 49);
        Check.answered("the least one", arms, arms.most(1, 0), 9);
        arms.rests(0, 9);
        arms.rests(1, 9);
        arms.rests(2, 1);
        Check.answered("the last one", arms, arms.most(0, 0), 60);
    }

    /** One throw is an outing like others. */
    private static void oneThrow() {
        ThrowArms arms = Check.told("arm a left 9 60 60 0;game 0 0 1;game 2 0 90;game 4 0 90;"
            + "rest 1 2;week 9");
        Check.answered("most of one", arms, arms.most(0, 0), 1);
        arms.put(1, 0, 1, false);
        Check.answered("ahead of it", arms, arms.most(0, 0), 0);
        Check.answered("behind it", arms, arms.most(0, 2), 0);
        Check.answered("ahead of it", arms, arms.clash(0, 0, 1), 4);
        Check.answered("behind it", arms, arms.clash(0, 2, 1), 2);
        arms.rests(0, 1);
        Check.answered("with less rest", arms, arms.clash(0, 2, 8), 0);
        Check.answered("in one week", arms, arms.clash(0, 2, 9), 8);
        Check.answered("when", arms, arms.when(0, 0, 1), 0);
    }

    private static void whens() {
        ThrowArms arms = Check.told(TEXT);
        Check.answered("at once", arms, arms.when(0, 0, 60), 0);
        Check.answered("never so many", arms, arms.when(0, 0, 61), -2);
        arms.put(0, 0, 50, false);
        Check.answered("later", arms, arms.when(0, 0, 1), 3);
        Check.answered("from then on", arms, arms.when(0, 3, 60), 3);
        Check.answered("another one", arms, arms.when(1, 0, 41), 1);
        Check.answered("another one", arms, arms.when(1, 0, 40), 0);
        Check.answered("another one", arms, arms.when(1, 1, 51), 3);
        Check.answered("not again", arms, arms.when(1, 3, 101), -2);
    }

    private static void ranks() {
        ThrowArms arms = Check.told(TEXT);
        int[][] due = {{1, 0, 2}, {0, 1, 2}, {1, 0, 2}, {1, 0, 2}};
        for (int g = 0; g < due.length; g++) {
            for (int i = 0; i < 3; i++) {
                Check.answered("ranked " + g, arms, arms.ranked(g, i), due[g][i]);
            }
        }
        arms = Check.told("arm a left 9 9 9 0;arm b right 10 9 9 0;arm c left 9 9 9 0;"
            + "arm d right 10 9 9 0;game 0 4 200;game 1 4 200");
        for (int i = 0; i < 4; i++) {
            Check.answered("like ones", arms, arms.ranked(0, i), new int[] {1, 3, 0, 2}[i]);
        }
        arms.put(0, 1, 9, false);
        Check.answered("he who is in it, too", arms, arms.ranked(0, 0), 1);
    }

    private static void extras() {
        ThrowArms arms = Check.told(TEXT);
        Check.answered("all", arms, arms.extra(0), 60 + 100 + 20);
        Check.answered("all", arms, arms.extra(2), 60 + 100 + 20);
        arms.put(0, 0, 60, false);
        Check.answered("but he who is in it", arms, arms.extra(0), 120);
        Check.answered("nor he who rests", arms, arms.extra(2), 120);
        arms.put(0, 1, 30, false);
        Check.answered("nothing is left, and yet", arms, arms.extra(0), 20);
        Check.answered("by the week", arms, arms.extra(1), 70 + 20);
        arms = Check.told("arm a left 9 9 9 0;arm b right 9 9 9 0;arm c left 9 9 9 0;"
            + "arm d right 9 9 9 0;game 0 4 9");
        arms.put(0, 0, 1, false);
        arms.put(0, 1, 1, false);
        Check.answered("two are left", arms, arms.extra(0), 18);
        arms.put(0, 2, 1, false);
        Check.answered("three outings", arms, arms.extra(0), 0);
    }

    private static void clashes() {
        ThrowArms arms = Check.told(TEXT);
        Check.answered("none", arms, arms.clash(0, 1, 60), 0);
        Check.answered("stamina", arms, arms.clash(0, 1, 61), 1);
        Check.answered("need is no bound", arms, arms.clash(0, 2, 60), 0);
        arms.put(0, 0, 50, false);
        Check.answered("an earlier one's rest", arms, arms.clash(0, 1, 50), 2);
        Check.answered("and the week", arms, arms.clash(0, 1, 51), 2 + 8);
        Check.answered("and stamina", arms, arms.clash(0, 2, 61), 1 + 2 + 8);
        Check.answered("in his own game", arms, arms.clash(0, 0, 60), 0);
        arms.put(2, 0, 5, true);
        Check.answered("from both sides", arms, arms.clash(0, 1, 19), 2);
        Check.answered("own rest, too", arms, arms.clash(0, 1, 20), 2 + 4);
        Check.answered("all of it", arms, arms.clash(0, 1, 61), 1 + 2 + 4 + 8);
        arms.take(0, 0);
        Check.answered("own rest alone", arms, arms.clash(0, 0, 50), 4);
        Check.answered("three days are more than one", arms, arms.clash(0, 0, 49), 0);
    }

    /** Seven days hold the sixth day behind, not the seventh. */
    private static void weeks() {
        ThrowArms arms = Check.told("arm a left 9 99 9 0;game 3 0 99;game 9 0 99;game 10 0 99;"
            + "game 16 0 99;week 50");
        arms.put(0, 0, 30, false);
        arms.put(3, 0, 25, false);
        Check.answered("six days", arms, arms.clash(0, 1, 20), 0);
        Check.answered("one more", arms, arms.clash(0, 1, 21), 8);
        Check.answered("seven days are another week", arms, arms.clash(0, 2, 25), 0);
        Check.answered("one more", arms, arms.clash(0, 2, 26), 8);
        Check.answered("most", arms, arms.most(0, 1), 20);
        Check.answered("most", arms, arms.most(0, 2), 25);
        arms.put(1, 0, 10, false);
        Check.answered("the heaviest of its weeks", arms, arms.most(0, 2), 25);
        arms.shift(3, 0, 5);
        Check.answered("another one now", arms, arms.most(0, 2), 40);
        arms.rule(0, 0);
        Check.answered("no bound", arms, arms.most(0, 2), 99);
        Check.answered("no bound", arms, arms.clash(0, 2, 99), 0);
        arms.rule(0, 9);
        Check.answered("all is too much", arms, arms.most(0, 2), 0);
        Check.answered("all is too much", arms, arms.clash(0, 2, 1), 8);
    }
}
