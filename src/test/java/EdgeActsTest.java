/** The bounds of promises 34 to 40: put, take, shift, swap, better, fill, fillAll. */
public final class EdgeActsTest {
    private static final Edge.Scene LEAST = Edge.scene(Edge.LEAST);
    private static final Edge.Scene SMALL = Edge.scene(Edge.SMALL, x -> x.put(0, 0, 60, false),
        x -> x.put(0, 1, 20, false), x -> x.put(3, 2, 11, false));

    /** Four THROWERS; three are in GAME 0. */
    private static final String FOUR = "arm a left 5 50 50 0;arm b left 6 50 50 0;"
        + "arm c left 7 50 50 0;arm d left 8 50 50 0;game 0 4 200;game 1 4 50;game 2 4 100";
    private static final Edge.Scene THREE = Edge.scene(FOUR, x -> x.put(0, 3, 10, false),
        x -> x.put(0, 1, 11, false), x -> x.put(0, 2, 12, false));

    public static void main(String[] args) {
        withoutText();
        noneSuchOfPut();
        throwsOfPut();
        roomOfPut();
        notSoOfPut();
        allowedAtTheBound();
        whichPutTellsFirst();
        placesOfTake();
        placesOfShift();
        throwsOfShift();
        roomOfShift();
        notSoOfShift();
        whichShiftTellsFirst();
        placesOfSwap();
        oneGame();
        inTheOtherGame();
        notAllowedThen();
        betterOfNothing();
        betterByMore();
        betterOfLikeOnes();
        betterUpTo99();
        gamesOfFill();
        fillUpToThree();
        fillInOrder();
        fillOfNothing();
        fillAllOfAll();
        Check.end();
    }

    private static void withoutText() {
        for (int n : new int[] {-1, 0, 1, Edge.LOWEST, Edge.HIGHEST}) {
            Edge.refused("put", Edge.noText(), 1, x -> x.put(0, 0, n, true));
            Edge.refused("take", Edge.noText(), 1, x -> x.take(0, n));
            Edge.refused("shift", Edge.noText(), 1, x -> x.shift(0, 0, n));
            Edge.refused("swap", Edge.noText(), 1, x -> x.swap(0, 0, n, 0) ? 1 : -1);
            Edge.refused("fill", Edge.noText(), 1, x -> x.fill(n));
        }
        Edge.refused("better", Edge.noText(), 1, x -> x.better());
        Edge.refused("fillAll", Edge.noText(), 1, x -> x.fillAll());
    }

    /** "NONE: 1". */
    private static void noneSuchOfPut() {
        for (int wrong : new int[] {-1, 4, 20, Edge.LOWEST, Edge.HIGHEST}) {
            Edge.refused("GAME", SMALL, 1, x -> x.put(wrong, 0, 1, false));
            Edge.refused("GAME", SMALL, 1, x -> x.put(wrong, 0, 1, true));
        }
        for (int wrong : new int[] {-1, 3, 8, Edge.LOWEST, Edge.HIGHEST}) {
            Edge.refused("THROWER", SMALL, 1, x -> x.put(1, wrong, 1, false));
            Edge.refused("THROWER", SMALL, 1, x -> x.put(1, wrong, 1, true));
        }
        Edge.acted("the last ones", SMALL, 2, x -> x.put(3, 1, 1, false));
        Edge.acted("the only ones", LEAST, 1, x -> x.put(0, 0, 1, false));
        Edge.acted("the last ones of all", Edge.scene(Edge.fullText()), 1,
            x -> x.put(19, 7, 120, false));
        Edge.refused("one above", Edge.scene(Edge.fullText()), 1, x -> x.put(20, 7, 1, true));
        Edge.refused("one above", Edge.scene(Edge.fullText()), 1, x -> x.put(19, 8, 1, true));
    }

    /** "2 (x 1 .. STAMINA)", forced or not. */
    private static void throwsOfPut() {
        for (boolean forced : new boolean[] {false, true}) {
            for (int wrong : new int[] {0, -1, 21, 120, 121, Edge.LOWEST, Edge.HIGHEST}) {
                Edge.refused("put", SMALL, 2, x -> x.put(1, 2, wrong, forced));
            }
            Edge.acted("one", SMALL, 1, x -> x.put(1, 2, 1, forced));
            Edge.acted("STAMINA", SMALL, 1, x -> x.put(1, 2, 20, forced));
            Edge.refused("above STAMINA", LEAST, 2, x -> x.put(0, 0, 2, forced));
        }
        Edge.Scene less = Edge.scene(Edge.SMALL, x -> x.become(2, 1, 7));
        Edge.acted("STAMINA as it is", less, 1, x -> x.put(1, 2, 7, false));
        Edge.refused("above it", less, 2, x -> x.put(1, 2, 8, false));
    }

    /** "3 (3 OUTINGS; more than NEED together)", forced or not. */
    private static void roomOfPut() {
        for (boolean forced : new boolean[] {false, true}) {
            Edge.refused("a fourth one", THREE, 3, x -> x.put(0, 0, 1, forced));
            Edge.acted("ten are left", SMALL, 3, x -> x.put(0, 2, 10, forced));
            Edge.refused("eleven aren't", SMALL, 3, x -> x.put(0, 2, 11, forced));
            Edge.acted("NEED at once", Edge.scene(FOUR), 1, x -> x.put(1, 0, 50, forced));
            Edge.refused("above NEED at once", Edge.scene(Edge.SMALL), 3,
                x -> x.put(2, 1, 21, forced));
            Edge.acted("NEED at once", Edge.scene(Edge.SMALL), 1, x -> x.put(2, 1, 20, forced));
        }
        Edge.Scene none = Edge.scene(FOUR, x -> x.put(1, 0, 50, false));
        Edge.refused("nothing is left", none, 3, x -> x.put(1, 1, 1, false));
        Edge.Scene two = Edge.scene(FOUR, x -> x.put(0, 3, 10, false), x -> x.put(0, 1, 11, false));
        Edge.acted("a third one", two, 3, x -> x.put(0, 0, 1, false));
    }

    /** "5 (he is in it; it isn't ALLOWED and isn't forced)". */
    private static void notSoOfPut() {
        Edge.refused("he is in it", SMALL, 5, x -> x.put(3, 2, 1, false));
        Edge.refused("he is in it, forced", SMALL, 5, x -> x.put(3, 2, 1, true));
        Edge.refused("he is in it, behind another", SMALL, 5, x -> x.put(0, 1, 1, true));
        Edge.refused("he rests", SMALL, 5, x -> x.put(1, 0, 1, false));
        Edge.acted("forced", SMALL, 1, x -> x.put(1, 0, 1, true));
        Edge.acted("forced, though it needn't be", SMALL, 1, x -> x.put(1, 1, 1, true));
        Edge.acted("ALLOWED", SMALL, 1, x -> x.put(1, 1, 1, false));
    }

    /** REST and WEEK at the bound: ALLOWED; one beyond: 5, but forced it does. */
    private static void allowedAtTheBound() {
        for (int days = 1; days <= 8; days++) {
            String text = "arm a left 9 60 9 0;game 9 0 60;game " + (9 + days)
                + " 0 60;rest 50 4;week 80";
            Edge.Scene rest = Edge.scene(text, x -> x.put(0, 0, 50, false));
            Edge.Scene later = Edge.scene(text, x -> x.put(1, 0, 30, false));
            if (days > 4) {
                Edge.acted("rested", rest, 1, x -> x.put(1, 0, 30, false));
                Edge.acted("rest is to come", later, 1, x -> x.put(0, 0, 50, false));
            } else {
                Edge.refused("not rested", rest, 5, x -> x.put(1, 0, 1, false));
                Edge.refused("rest isn't to come", later, 5, x -> x.put(0, 0, 50, false));
                Edge.acted("fewer throws", later, 1, x -> x.put(0, 0, 49, false));
            }
            if (days <= 6) {
                Edge.refused("above WEEK", rest, 5, x -> x.put(1, 0, 31, false));
            } else {
                Edge.acted("another week", rest, 1, x -> x.put(1, 0, 31, false));
            }
            Edge.acted("forced", rest, 1, x -> x.put(1, 0, 60, true));
            Edge.acted("forced", later, 1, x -> x.put(0, 0, 60, true));
        }
    }

    /** Of several grounds that of the least place in the document's row. */
    private static void whichPutTellsFirst() {
        Edge.refused("1 ahead of 2", THREE, 1, x -> x.put(3, 0, 0, true));
        Edge.refused("1 ahead of 2", THREE, 1, x -> x.put(0, 4, 0, true));
        Edge.refused("2 ahead of 3 and 5", THREE, 2, x -> x.put(0, 1, 51, true));
        Edge.refused("2 ahead of 3 and 5", THREE, 2, x -> x.put(0, 1, 0, false));
        Edge.refused("3 ahead of 5", THREE, 3, x -> x.put(0, 1, 1, true));
        Edge.Scene two = Edge.scene(FOUR + ";week 60", x -> x.put(1, 3, 50, false),
            x -> x.put(0, 3, 10, false));
        Edge.refused("3 ahead of 5, he is in it", two, 3, x -> x.put(1, 3, 1, true));
        Edge.refused("5, he is in it", two, 5, x -> x.put(0, 3, 1, true));
        Edge.refused("5, he is in it and not ALLOWED", two, 5, x -> x.put(0, 3, 50, false));
        Edge.refused("5, not ALLOWED", two, 5, x -> x.put(2, 3, 1, false));
    }

    /** "OUTING k of a GAME goes: how many throws it had. NONE: 1". */
    private static void placesOfTake() {
        for (int wrong : new int[] {-1, 3, 4, Edge.LOWEST, Edge.HIGHEST}) {
            Edge.refused("no such OUTING", THREE, 1, x -> x.take(0, wrong));
            Edge.refused("no such GAME", THREE, 1, x -> x.take(wrong, 0));
        }
        Edge.refused("none in it", THREE, 1, x -> x.take(1, 0));
        Edge.refused("two in it", SMALL, 1, x -> x.take(0, 2));
        Edge.refused("no OUTING", LEAST, 1, x -> x.take(0, 0));
        for (int k = 0; k < 3; k++) {
            int place = k;
            Edge.acted("take " + k, THREE, 10 + k, x -> x.take(0, place));
            ThrowArms arms = THREE.set();
            arms.take(0, k);
            int[] who = {3, 1, 2};
            for (int i = 0; i < 2; i++) {
                int from = i < k ? i : i + 1;
                Check.answered("who", arms, arms.outing(0, i, 0), who[from]);
                Check.answered("throws", arms, arms.outing(0, i, 1), 10 + from);
            }
            Check.refused("two are left", arms, arms.outing(0, 2, 0), 1);
            Check.answered("he may again", arms, arms.most(who[k], 0), 50);
            Check.answered("he comes behind", arms, arms.put(0, who[k], 1, false), 3);
            Check.answered("he comes behind", arms, arms.outing(0, 2, 0), who[k]);
        }
        Edge.acted("the last of all", Edge.full(), 1, x -> x.take(19, 2));
        Edge.refused("one above", Edge.full(), 1, x -> x.take(19, 3));
        Edge.refused("one above", Edge.full(), 1, x -> x.take(20, 0));
    }

    /** "NONE: 1" of shift(). */
    private static void placesOfShift() {
        for (int wrong : new int[] {-1, 3, 4, Edge.LOWEST, Edge.HIGHEST}) {
            Edge.refused("no such OUTING", THREE, 1, x -> x.shift(0, wrong, 1));
            Edge.refused("no such GAME", THREE, 1, x -> x.shift(wrong, 0, 1));
        }
        Edge.refused("none in it", THREE, 1, x -> x.shift(1, 0, 1));
        Edge.refused("two in it", SMALL, 1, x -> x.shift(0, 2, 1));
        for (int k = 0; k < 3; k++) {
            int place = k;
            Edge.acted("shift " + k, THREE, 10 + k, x -> x.shift(0, place, 9));
        }
    }

    /** "2 (x 1 .. STAMINA)" of shift(). */
    private static void throwsOfShift() {
        for (int wrong : new int[] {0, -1, 21, 120, 121, Edge.LOWEST, Edge.HIGHEST}) {
            Edge.refused("shift", SMALL, 2, x -> x.shift(3, 0, wrong));
        }
        Edge.acted("one", SMALL, 11, x -> x.shift(3, 0, 1));
        Edge.acted("STAMINA", SMALL, 11, x -> x.shift(3, 0, 20));
        Edge.acted("as it was", SMALL, 11, x -> x.shift(3, 0, 11));
        Edge.Scene less = Edge.scene(Edge.SMALL, x -> x.put(3, 2, 11, false),
            x -> x.become(2, 1, 10));
        Edge.refused("above STAMINA as it is", less, 2, x -> x.shift(3, 0, 11));
        Edge.acted("STAMINA as it is", less, 11, x -> x.shift(3, 0, 10));
    }

    /** "3 (more than NEED together)": its own throws make room. */
    private static void roomOfShift() {
        Edge.acted("up to NEED", SMALL, 20, x -> x.shift(0, 1, 30));
        Edge.refused("above NEED", SMALL, 3, x -> x.shift(0, 1, 31));
        Edge.Scene alone = Edge.scene(Edge.SMALL, x -> x.put(2, 1, 19, false));
        Edge.acted("all of NEED", alone, 19, x -> x.shift(2, 0, 20));
        Edge.refused("above NEED", alone, 3, x -> x.shift(2, 0, 21));
        Edge.Scene full = Edge.scene(Edge.SMALL, x -> x.put(2, 1, 19, false),
            x -> x.put(2, 0, 1, false));
        Edge.acted("as it was", full, 19, x -> x.shift(2, 0, 19));
        Edge.refused("one more", full, 3, x -> x.shift(2, 0, 20));
        Edge.acted("three OUTINGS are no ground", THREE, 12, x -> x.shift(0, 2, 13));
    }

    /** "5 (it isn't ALLOWED so)". */
    private static void notSoOfShift() {
        Edge.Scene two = Edge.scene("arm a left 9 60 9 0;game 0 0 60;game 4 0 60;rest 50 4;week 80",
            x -> x.put(0, 0, 30, false), x -> x.put(1, 0, 40, false));
        Edge.acted("WEEK", two, 30, x -> x.shift(0, 0, 40));
        Edge.refused("above WEEK", two, 5, x -> x.shift(0, 0, 41));
        Edge.acted("WEEK", two, 40, x -> x.shift(1, 0, 50));
        Edge.refused("above WEEK", two, 5, x -> x.shift(1, 0, 51));
        Edge.Scene free = Edge.scene("arm a left 9 60 9 0;game 0 0 60;game 4 0 60;rest 50 4",
            x -> x.put(0, 0, 30, false), x -> x.put(1, 0, 40, false));
        Edge.acted("no REST", free, 30, x -> x.shift(0, 0, 49));
        Edge.refused("four DAYS aren't more", free, 5, x -> x.shift(0, 0, 50));
        Edge.Scene breached = Edge.scene("arm a left 9 60 9 0;game 0 0 60;game 4 0 60;rest 50 4",
            x -> x.put(0, 0, 50, false), x -> x.put(1, 0, 40, true));
        Edge.refused("the earlier one's REST", breached, 5, x -> x.shift(1, 0, 1));
        Edge.acted("fewer throws mend it", breached, 50, x -> x.shift(0, 0, 49));
        Edge.refused("as it was, it wasn't ALLOWED", breached, 5, x -> x.shift(1, 0, 40));
    }

    private static void whichShiftTellsFirst() {
        Edge.refused("1 ahead of 2", SMALL, 1, x -> x.shift(1, 0, 0));
        Edge.refused("1 ahead of 2", SMALL, 1, x -> x.shift(0, 2, 0));
        Edge.refused("2 ahead of 3", SMALL, 2, x -> x.shift(0, 1, 101));
        Edge.Scene near = Edge.scene(Edge.SMALL, x -> x.put(0, 1, 40, false),
            x -> x.put(1, 1, 20, false), x -> x.put(1, 0, 1, false));
        Edge.refused("2 ahead of 3 and 5", near, 2, x -> x.shift(0, 0, 101));
        Edge.refused("3 ahead of 5", near, 3, x -> x.shift(0, 0, 91));
        Edge.refused("5", near, 5, x -> x.shift(0, 0, 90));
        Edge.acted("49 ask for one DAY", near, 40, x -> x.shift(0, 0, 49));
    }

    private static void notSwapped(Edge.Scene scene, int number, int g, int k, int h, int j) {
        Edge.refused("swap", scene, number, x -> x.swap(g, k, h, j) ? 1 : -1);
        Edge.refused("swap", scene, number, x -> x.swap(h, j, g, k) ? 1 : -1);
    }

    private static void swapped(Edge.Scene scene, int g, int k, int h, int j) {
        Edge.acted("swap", scene, 1, x -> x.swap(g, k, h, j) ? 1 : -1);
        Edge.acted("swap", scene, 1, x -> x.swap(h, j, g, k) ? 1 : -1);
        ThrowArms arms = scene.set();
        int[] ahead = {arms.outing(g, k, 0), arms.outing(g, k, 1), arms.outing(h, j, 0),
            arms.outing(h, j, 1)};
        Check.isTrue("swap", arms.swap(g, k, h, j));
        Check.answered("the other one", arms, arms.outing(g, k, 0), ahead[2]);
        Check.answered("throws stay", arms, arms.outing(g, k, 1), ahead[1]);
        Check.answered("the one", arms, arms.outing(h, j, 0), ahead[0]);
        Check.answered("throws stay", arms, arms.outing(h, j, 1), ahead[3]);
        ThrowArms other = scene.set();
        for (int t : new int[] {ahead[0], ahead[2]}) {
            int more = (t == ahead[0] ? 1 : -1) * (ahead[3] - ahead[1]);
            Check.answered("his throws", arms, arms.arm(t, 5), other.arm(t, 5) + more);
            Check.answered("his OUTINGS", arms, arms.arm(t, 6), other.arm(t, 6));
        }
    }

    /** "false: 1". */
    private static void placesOfSwap() {
        for (int wrong : new int[] {-1, 3, 4, Edge.LOWEST, Edge.HIGHEST}) {
            notSwapped(THREE, 1, 0, wrong, 0, 0);
            notSwapped(THREE, 1, wrong, 0, 0, 0);
            notSwapped(THREE, 1, wrong, wrong, wrong, wrong);
        }
        notSwapped(THREE, 1, 0, 0, 1, 0);
        notSwapped(SMALL, 1, 0, 2, 3, 0);
        notSwapped(SMALL, 1, 0, 0, 3, 1);
        notSwapped(LEAST, 1, 0, 0, 0, 0);
        Edge.Scene both = Edge.scene(Edge.fullText(), x -> x.put(0, 7, 5, false),
            x -> x.put(19, 6, 1, false), x -> x.put(19, 5, 1, false), x -> x.put(19, 0, 6, false));
        swapped(both, 0, 0, 19, 2);
        notSwapped(both, 1, 0, 0, 19, 3);
        notSwapped(both, 1, 0, 0, 20, 0);
    }

    /** "5 (one GAME ..", be it one OUTING, be it two. */
    private static void oneGame() {
        for (int k = 0; k < 3; k++) {
            for (int j = 0; j < 3; j++) {
                notSwapped(THREE, 5, 0, k, 0, j);
            }
        }
        notSwapped(THREE, 1, 0, 0, 0, 3);
    }

    /** ".. one of them is in the other GAME, too ..". */
    private static void inTheOtherGame() {
        Edge.Scene scene = Edge.scene(FOUR, x -> x.put(0, 0, 10, false),
            x -> x.put(0, 1, 10, false), x -> x.put(2, 2, 10, false), x -> x.put(2, 1, 10, false),
            x -> x.put(1, 0, 10, false));
        swapped(scene, 0, 0, 2, 0);
        notSwapped(scene, 5, 0, 1, 2, 0);
        notSwapped(scene, 5, 0, 0, 2, 1);
        notSwapped(scene, 5, 0, 1, 2, 1);
        notSwapped(scene, 5, 0, 1, 1, 0);
        notSwapped(scene, 5, 0, 0, 1, 0);
    }

    /** ".. one of both OUTINGS isn't ALLOWED then)": STAMINA, REST, WEEK at the bound. */
    private static void notAllowedThen() {
        String text = "arm a left 5 50 50 0;arm b left 6 40 40 0;game 0 4 50;game 4 4 50;"
            + "game 8 4 50;rest 30 3;week 60";
        swapped(Edge.scene(text, x -> x.put(0, 0, 40, false), x -> x.put(1, 1, 1, false)),
            0, 0, 1, 0);
        notSwapped(Edge.scene(text, x -> x.put(0, 0, 41, false), x -> x.put(1, 1, 1, false)),
            5, 0, 0, 1, 0);
        // b throws on DAY 8, too: with 20 in a week of 60 he may throw 40 on DAY 4
        swapped(Edge.scene(text, x -> x.put(0, 1, 1, false), x -> x.put(1, 0, 40, false),
            x -> x.put(2, 1, 20, false)), 0, 0, 1, 0);
        notSwapped(Edge.scene(text, x -> x.put(0, 1, 1, false), x -> x.put(1, 0, 40, false),
            x -> x.put(2, 1, 21, false)), 5, 0, 0, 1, 0);
        notSwapped(Edge.scene(text, x -> x.put(0, 1, 1, false), x -> x.put(1, 0, 30, false),
            x -> x.put(2, 1, 20, false), x -> x.rests(0, 4)), 5, 0, 0, 1, 0);
        swapped(Edge.scene(text, x -> x.put(0, 1, 1, false), x -> x.put(1, 0, 29, false),
            x -> x.put(2, 1, 20, false), x -> x.rests(0, 4)), 0, 0, 1, 0);
        // what b leaves is in the week of the DAY he comes to and of DAY 4, and doesn't count
        String week = "arm a left 5 50 50 0;arm b left 6 50 50 0;game 0 4 50;game 2 4 50;"
            + "game 4 4 50;week 60";
        for (int from = 0; from <= 1; from++) {
            int left = from;
            int other = 1 - from;
            swapped(Edge.scene(week, x -> x.put(left, 1, 9, false),
                x -> x.put(other, 0, 50, false), x -> x.put(2, 1, 10, false)), 0, 0, 1, 0);
            notSwapped(Edge.scene(week, x -> x.put(left, 1, 9, false),
                x -> x.put(other, 0, 50, false), x -> x.put(2, 1, 11, false)), 5, 0, 0, 1, 0);
        }
        // what they leave doesn't count: they are on DAYS one behind another
        swapped(Edge.scene("arm a left 5 50 50 0;arm b left 6 50 50 0;game 0 4 50;game 1 4 50;"
            + "rest 1 9;week 50", x -> x.put(0, 0, 50, false), x -> x.put(1, 1, 50, false)),
            0, 0, 1, 0);
    }

    /** No OUTING, nobody else, nobody better: no change, and an ACT all the same. */
    private static void betterOfNothing() {
        Edge.acted("no OUTING", LEAST, 0, x -> x.better());
        Edge.acted("nobody else", Edge.scene(Edge.LEAST, x -> x.put(0, 0, 1, false)), 0,
            x -> x.better());
        Edge.acted("others are in it", Edge.scene("arm a left 5 9 9 0;arm b left 6 9 9 0;game 0 0 18",
            x -> x.put(0, 0, 9, false), x -> x.put(0, 1, 9, false)), 0, x -> x.better());
        Edge.acted("as good", Edge.scene("arm a left 6 9 9 0;arm b left 6 9 9 0;game 0 0 18",
            x -> x.put(0, 1, 9, false)), 0, x -> x.better());
    }

    /** "makes its VALUE greater", by one at least; "ALLOWED then", at the bound. */
    private static void betterByMore() {
        String two = "arm a left 5 10 9 0;arm b left 5 10 10 0;game 0 0 18;game 3 0 18;rest 5 2;"
            + "week 12";
        // ten of a's are worth 47, ten of b's 50; nine are alike
        Edge.acted("more", Edge.scene(two, x -> x.put(0, 0, 10, false)), 1, x -> x.better());
        Edge.acted("as much", Edge.scene(two, x -> x.put(0, 0, 9, false)), 0, x -> x.better());
        Edge.acted("within WEEK", Edge.scene(two, x -> x.put(0, 0, 10, false),
            x -> x.put(1, 1, 2, false)), 1, x -> x.better());
        Edge.acted("above WEEK", Edge.scene(two, x -> x.put(0, 0, 10, false),
            x -> x.put(1, 1, 3, false)), 0, x -> x.better());
        Edge.acted("three DAYS are more", Edge.scene(two, x -> x.put(0, 0, 10, false),
            x -> x.put(1, 1, 1, false)), 1, x -> x.better());
        Edge.acted("than three they aren't", Edge.scene(two, x -> x.put(0, 0, 10, false),
            x -> x.put(1, 1, 1, false), x -> x.rests(0, 3)), 0, x -> x.better());
        Edge.acted("above STAMINA", Edge.scene(two, x -> x.put(0, 0, 10, false),
            x -> x.become(1, 1, 9)), 0, x -> x.better());
        // it isn't ALLOWED where it is, but another one there would be
        Edge.acted("a breach is mended", Edge.scene(two, x -> x.put(0, 0, 10, false),
            x -> x.become(0, 1, 8)), 1, x -> x.better());
    }

    /** Of like ones the first OUTING, then the least THROWER; he who goes has it no more. */
    private static void betterOfLikeOnes() {
        Edge.Scene scene = Edge.scene("arm a left 9 10 10 0;arm b left 5 10 10 0;arm c left 9 10 10 0;"
            + "game 0 0 20;game 1 0 20;week 10", x -> x.put(0, 1, 5, false),
            x -> x.put(1, 1, 5, false));
        Edge.acted("two changes", scene, 2, x -> x.better());
        ThrowArms arms = scene.set();
        arms.rule(0, 5);
        arms.better();
        Check.answered("the first is the least one's", arms, arms.outing(0, 0, 0), 0);
        Check.answered("whose week is full then", arms, arms.outing(1, 0, 0), 2);
        int[] due = {5, 0, 5};
        for (int t = 0; t < 3; t++) {
            Check.answered("his throws", arms, arms.arm(t, 5), due[t]);
            Check.answered("his OUTINGS", arms, arms.arm(t, 6), due[t] / 5);
            Check.answered("MOST", arms, arms.most(t, 0), t == 1 ? 5 : 0);
        }
    }

    /** "(99 at most)": ActsTest has a plan of 104 changes; here all sixty change at once. */
    private static void betterUpTo99() {
        Edge.Scene scene = Edge.scene(Edge.fullText().replace("edge 9", "edge 0"), x -> {
            for (int i = 0; i < 60; i++) {
                x.put(i / 3, i % 3, 1, false);
            }
            for (int t = 0; t < 3; t++) {
                x.become(t, 0, 1);
            }
            return 0;
        });
        Edge.acted("sixty changes", scene, 60, x -> x.better());
        ThrowArms arms = scene.set();
        arms.better();
        for (int i = 0; i < 60; i++) {
            Check.equal("the least of like ones", arms.outing(i / 3, i % 3, 0), 3 + i % 3);
        }
        Check.answered("no more", arms, arms.better(), 0);
    }

    /** "NONE: 1" of fill(). */
    private static void gamesOfFill() {
        for (int wrong : new int[] {-1, 4, 20, Edge.LOWEST, Edge.HIGHEST}) {
            Edge.refused("fill", SMALL, 1, x -> x.fill(wrong));
        }
        Edge.refused("one above", Edge.full(), 1, x -> x.fill(20));
        Edge.acted("the only one", LEAST, 1, x -> x.fill(0));
        Edge.acted("the last one", SMALL, 2, x -> x.fill(3));
        Edge.acted("the last of all", Edge.scene(Edge.fullText()), 2, x -> x.fill(19));
    }

    /** "as long as it has fewer than 3 OUTINGS and some THROWER has a MOST above 0". */
    private static void fillUpToThree() {
        Edge.acted("three of four", Edge.scene(FOUR), 3, x -> x.fill(0));
        Edge.acted("two of four", Edge.scene(FOUR), 2, x -> x.fill(2));
        Edge.acted("one of four", Edge.scene(FOUR), 1, x -> x.fill(1));
        Edge.acted("two more", Edge.scene(FOUR, x -> x.put(0, 0, 1, false)), 2, x -> x.fill(0));
        Edge.acted("one more", Edge.scene(FOUR, x -> x.put(0, 0, 1, false),
            x -> x.put(0, 1, 1, false)), 1, x -> x.fill(0));
        Edge.acted("no more", THREE, 0, x -> x.fill(0));
        Edge.acted("one throw is left", Edge.scene(FOUR, x -> x.put(1, 0, 49, false)), 1,
            x -> x.fill(1));
        ThrowArms arms = Edge.scene(FOUR, x -> x.put(2, 0, 1, false)).set();
        arms.fill(2);
        int[][] due = {{0, 1}, {3, 50}, {2, 49}};
        for (int k = 0; k < 3; k++) {
            Check.answered("who", arms, arms.outing(2, k, 0), due[k][0]);
            Check.answered("throws", arms, arms.outing(2, k, 1), due[k][1]);
        }
    }

    /** "of that one for whom it has the greatest VALUE, of like ones the least". */
    private static void fillInOrder() {
        int[][] strengths = {{9, 9, 9, 9}, {5, 9, 9, 5}, {9, 8, 7, 6}, {6, 7, 8, 9}, {1, 9, 2, 9}};
        int[][] due = {{0, 1, 2}, {1, 2, 0}, {0, 1, 2}, {3, 2, 1}, {1, 3, 2}};
        for (int i = 0; i < strengths.length; i++) {
            ThrowArms arms = Edge.scene(FOUR).set();
            for (int t = 0; t < 4; t++) {
                arms.become(t, 0, strengths[i][t]);
            }
            Check.answered("three", arms, arms.fill(0), 3);
            for (int k = 0; k < 3; k++) {
                Check.answered("who", arms, arms.outing(0, k, 0), due[i][k]);
                Check.answered("all he can", arms, arms.outing(0, k, 1), 50);
            }
        }
    }

    /** Nobody may, or nothing is left: none comes, and an ACT all the same. */
    private static void fillOfNothing() {
        Edge.acted("nothing is left", Edge.scene(FOUR, x -> x.put(1, 0, 50, false)), 0,
            x -> x.fill(1));
        Edge.acted("he rests", Edge.scene("arm a left 5 9 9 0;game 0 0 9;game 1 0 9;rest 1 1",
            x -> x.put(0, 0, 9, false)), 0, x -> x.fill(1));
        Edge.acted("WEEK is full", Edge.scene("arm a left 5 9 9 0;game 0 0 9;game 6 0 9;week 9",
            x -> x.put(0, 0, 9, false)), 0, x -> x.fill(1));
        Edge.acted("worth nothing, and yet", Edge.scene("arm a left 9 9 9 0;game 0 0 9;edge 1"), 1,
            x -> x.fill(0));
    }

    /** "FILL GAMES from 0 on, all", in one ACT. */
    private static void fillAllOfAll() {
        Edge.acted("the only one", LEAST, 1, x -> x.fillAll());
        Edge.acted("none comes", Edge.scene(Edge.LEAST, x -> x.put(0, 0, 1, false)), 0,
            x -> x.fillAll());
        Edge.acted("all are full", Edge.full(), 0, x -> x.fillAll());
        Edge.acted("sixty come", Edge.scene(Edge.fullText(), x -> {
            for (int t = 0; t < 8; t++) {
                x.become(t, 1, 50);
            }
            return 0;
        }), 60, x -> x.fillAll());
        Edge.acted("three, one and two", Edge.scene(FOUR), 6, x -> x.fillAll());
    }
}
