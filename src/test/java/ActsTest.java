/** Promises 34 to 45: acts. */
public final class ActsTest {
    /** POINTS are 44 68 32 52 of ann, 47 23 59 39 of bob, 24 0 36 16 of cy. */
    private static final String TEXT = "arm ann left 50 60 40 2;arm bob right 41 100 80 0;"
        + "arm cy right 18 20 10 9;game 0 3 90;game 2 9 50;game 3 0 20;game 10 5 120;"
        + "rest 20 1;rest 50 3;week 100;edge 2";

    private static final String FOUR = "arm a left 5 10 10 0;arm b left 6 10 10 0;"
        + "arm c left 7 10 10 0;arm d left 8 10 10 0;";

    public static void main(String[] args) {
        refusals();
        puts();
        putOrder();
        takes();
        shifts();
        swaps();
        swapsOfBothSides();
        betters();
        betterOfLikeOnes();
        betterUpTo99();
        fills();
        fillsAll();
        becomes();
        rules();
        restChanges();
        undos();
        undoOfAll();
        refusedActsChangeNothing();
        Check.end();
    }

    private static void refusals() {
        ThrowArms arms = Check.told(TEXT);
        arms.put(0, 0, 10, false);
        for (int wrong : new int[] {-1, 4, Integer.MIN_VALUE, Integer.MAX_VALUE}) {
            Check.refused("put", arms, arms.put(wrong, 0, 0, true), 1);
            Check.refused("put", arms, arms.put(0, wrong, 0, true), 1);
            Check.refused("take", arms, arms.take(wrong, 0), 1);
            Check.refused("take", arms, arms.take(0, wrong), 1);
            Check.refused("shift", arms, arms.shift(wrong, 0, 0), 1);
            Check.refused("shift", arms, arms.shift(0, wrong, 0), 1);
            Check.refused("fill", arms, arms.fill(wrong), 1);
            Check.refused("become", arms, arms.become(wrong, 0, -1), 1);
            Check.refused("become", arms, arms.become(0, wrong, -1), 1);
            Check.refused("rule", arms, arms.rule(wrong, -1), 1);
            Check.refused("rests", arms, arms.rests(wrong, -1), 1);
            for (int place = 0; place < 4; place++) {
                int[] at = {0, 0, 0, 0};
                at[place] = wrong;
                Check.isTrue("swap", !arms.swap(at[0], at[1], at[2], at[3]));
                Check.equal("trouble of swap", arms.trouble(), 1);
            }
        }
        Check.refused("a fourth thrower", arms, arms.put(0, 3, 0, true), 1);
        Check.refused("a second outing", arms, arms.take(0, 1), 1);
        Check.refused("a second outing", arms, arms.shift(0, 1, 1), 1);
        Check.refused("rule 3", arms, arms.rule(3, 0), 1);
        Check.refused("a third rest", arms, arms.rests(2, 0), 1);
        Check.answered("one act", arms, arms.about(7), 1);
    }

    private static void puts() {
        ThrowArms arms = Check.told(TEXT);
        Check.refused("no throw", arms, arms.put(0, 0, 0, true), 2);
        Check.refused("above stamina", arms, arms.put(0, 0, 61, true), 2);
        Check.answered("the first", arms, arms.put(0, 0, 60, false), 1);
        Check.refused("above need", arms, arms.put(0, 1, 31, true), 3);
        Check.answered("up to need", arms, arms.put(0, 1, 30, false), 2);
        Check.refused("nothing is left", arms, arms.put(0, 2, 1, true), 3);
        Check.refused("he rests", arms, arms.put(1, 0, 1, false), 5);
        Check.answered("forced", arms, arms.put(1, 0, 1, true), 1);
        Check.refused("he is in it", arms, arms.put(1, 0, 1, true), 5);
        arms.rule(0, 70);
        Check.refused("above the week", arms, arms.put(1, 1, 41, false), 5);
        Check.answered("within it", arms, arms.put(1, 1, 40, false), 2);
    }

    private static void putOrder() {
        ThrowArms arms = Check.told(FOUR + "game 0 4 30;game 1 4 9");
        Check.answered("first", arms, arms.put(0, 3, 1, false), 1);
        Check.answered("second", arms, arms.put(0, 1, 2, false), 2);
        Check.answered("third", arms, arms.put(0, 2, 3, false), 3);
        Check.refused("fourth", arms, arms.put(0, 0, 1, true), 3);
        Check.refused("he is in it, but first there is no room", arms, arms.put(0, 1, 1, true), 3);
        Check.refused("the number is ahead of that", arms, arms.put(0, 1, 11, true), 2);
        for (int k = 0; k < 3; k++) {
            Check.equal("who", arms.outing(0, k, 0), new int[] {3, 1, 2}[k]);
            Check.equal("throws", arms.outing(0, k, 1), k + 1);
        }
        Check.answered("three acts", arms, arms.about(7), 3);
    }

    private static void takes() {
        ThrowArms arms = Check.told(FOUR + "game 0 4 30;game 1 4 9");
        arms.put(0, 3, 1, false);
        arms.put(0, 1, 2, false);
        arms.put(0, 2, 3, false);
        Check.answered("the middle one", arms, arms.take(0, 1), 2);
        Check.answered("two are left", arms, arms.game(0, 3), 2);
        Check.answered("the last is second", arms, arms.outing(0, 1, 0), 2);
        Check.answered("with its throws", arms, arms.outing(0, 1, 1), 3);
        Check.answered("what is left", arms, arms.game(0, 4), 26);
        Check.answered("he may again", arms, arms.most(1, 0), 10);
        Check.answered("the first one", arms, arms.take(0, 0), 1);
        Check.answered("the last one", arms, arms.take(0, 0), 3);
        Check.refused("no more", arms, arms.take(0, 0), 1);
        Check.answered("none", arms, arms.about(2), 0);
    }

    private static void shifts() {
        ThrowArms arms = Check.told(TEXT);
        arms.put(0, 0, 30, false);
        arms.put(0, 1, 40, false);
        Check.refused("no throw", arms, arms.shift(0, 0, 0), 2);
        Check.refused("above stamina", arms, arms.shift(0, 0, 61), 2);
        Check.refused("above need", arms, arms.shift(0, 0, 51), 3);
        Check.answered("up to need", arms, arms.shift(0, 0, 50), 30);
        Check.answered("throws", arms, arms.outing(0, 0, 1), 50);
        Check.answered("he is it still", arms, arms.outing(0, 0, 0), 0);
        Check.answered("his throws", arms, arms.arm(0, 5), 50);
        Check.answered("fewer", arms, arms.shift(0, 0, 19), 50);
        Check.answered("the same", arms, arms.shift(0, 0, 19), 19);
        Check.answered("one throw", arms, arms.shift(0, 0, 1), 19);
        arms.undo();
        arms.put(2, 0, 20, false);
        Check.refused("own rest", arms, arms.shift(0, 0, 50), 5);
        Check.answered("less rest", arms, arms.shift(0, 0, 49), 19);
        Check.answered("acts", arms, arms.about(7), 7);
        arms.rule(0, 60);
        Check.refused("the week", arms, arms.shift(0, 0, 41), 5);
        Check.answered("within it", arms, arms.shift(0, 0, 40), 49);
    }

    private static void swapped(ThrowArms arms, int due, int g, int k, int h, int j) {
        Check.isTrue("swap", arms.swap(g, k, h, j) == (due == 0));
        Check.equal("trouble of swap", arms.trouble(), due);
    }

    private static void swaps() {
        ThrowArms arms = Check.told(TEXT);
        arms.put(0, 2, 20, false);
        arms.put(0, 0, 15, false);
        arms.put(1, 1, 30, false);
        arms.put(3, 1, 30, false);
        swapped(arms, 5, 0, 0, 0, 1);
        swapped(arms, 5, 0, 0, 0, 0);
        swapped(arms, 5, 1, 0, 3, 0);
        swapped(arms, 1, 0, 2, 1, 0);
        swapped(arms, 5, 0, 0, 1, 0);
        swapped(arms, 0, 0, 1, 1, 0);
        int[][] due = {{0, 0, 2, 20}, {0, 1, 1, 15}, {1, 0, 0, 30}, {3, 0, 1, 30}};
        for (int[] row : due) {
            Check.equal("who", arms.outing(row[0], row[1], 0), row[2]);
            Check.equal("throws", arms.outing(row[0], row[1], 1), row[3]);
        }
        Check.equal("his throws", arms.arm(0, 5), 30);
        Check.equal("his throws", arms.arm(1, 5), 45);
        Check.equal("acts", arms.about(7), 5);
        arms.put(2, 1, 15, false);
        swapped(arms, 5, 0, 1, 1, 0);
        arms.take(2, 0);
        swapped(arms, 0, 1, 0, 0, 1);
        Check.equal("back", arms.outing(0, 1, 0), 0);
        Check.equal("the same game", arms.game(0, 3), 2);
        arms.put(1, 2, 20, false);
        swapped(arms, 5, 0, 1, 1, 1);
        swapped(arms, 5, 1, 1, 0, 1);
    }

    /** Where both go counts, and what they leave doesn't. */
    private static void swapsOfBothSides() {
        ThrowArms arms = Check.told("arm a left 5 50 50 0;arm b left 5 50 50 0;game 0 4 50;"
            + "game 1 4 50;game 2 4 50;week 50;rest 10 1");
        arms.put(0, 0, 40, false);
        arms.put(1, 1, 30, false);
        swapped(arms, 0, 0, 0, 1, 0);
        swapped(arms, 0, 0, 0, 1, 0);
        arms.put(2, 0, 5, true);
        swapped(arms, 5, 0, 0, 1, 0);
        swapped(arms, 5, 1, 0, 0, 0);
        arms.rule(0, 60);
        swapped(arms, 5, 0, 0, 1, 0);
        arms.rests(0, 0);
        swapped(arms, 0, 0, 0, 1, 0);
        arms.rests(0, 1);
        swapped(arms, 0, 1, 0, 0, 0);
        arms.become(1, 1, 39);
        swapped(arms, 5, 0, 0, 1, 0);
        swapped(arms, 5, 1, 0, 0, 0);
    }

    private static void betters() {
        ThrowArms arms = Check.told(TEXT);
        Check.answered("nothing to change", arms, arms.better(), 0);
        Check.answered("an act all the same", arms, arms.about(7), 1);
        arms.put(0, 2, 20, false);
        arms.put(1, 1, 20, false);
        // ann brings 68 for 23 in game 1 first; then game 0 has cy's place for bob
        Check.answered("two changes", arms, arms.better(), 2);
        Check.answered("in game 1", arms, arms.outing(1, 0, 0), 0);
        Check.answered("in game 0", arms, arms.outing(0, 0, 0), 1);
        Check.answered("throws stay", arms, arms.outing(0, 0, 1), 20);
        Check.answered("values", arms, arms.value(), 20 * 68 + 20 * 47);
        Check.answered("no more", arms, arms.better(), 0);
        Check.answered("undone", arms, arms.undo(), 4);
        Check.answered("undone", arms, arms.undo(), 3);
        Check.answered("as it was", arms, arms.value(), 10 * 24 + 10 * 12 + 20 * 23);
        Check.answered("as it was", arms, arms.outing(0, 0, 0), 2);
        arms.put(0, 1, 20, false);
        arms.put(0, 0, 20, false);
        Check.answered("not one who is in it", arms, arms.better(), 1);
        Check.answered("he stays", arms, arms.outing(0, 0, 0), 2);
        Check.answered("in game 1", arms, arms.outing(1, 0, 0), 0);
    }

    private static void betterOfLikeOnes() {
        ThrowArms arms = Check.told("arm a left 5 10 10 0;arm b left 9 10 10 0;arm c left 9 10 10 0;"
            + "game 0 4 30;game 1 4 30;game 2 4 30;rest 1 1");
        arms.put(0, 0, 5, false);
        arms.put(1, 0, 5, true);
        arms.put(2, 0, 5, true);
        Check.answered("three", arms, arms.better(), 3);
        int[] due = {1, 2, 1};
        for (int g = 0; g < 3; g++) {
            Check.equal("who", arms.outing(g, 0, 0), due[g]);
        }
        arms = Check.told("arm a left 5 10 10 0;arm b left 9 9 9 0;game 0 4 30;game 1 4 30;week 12");
        arms.put(0, 0, 5, false);
        arms.put(1, 0, 6, false);
        Check.answered("both fit", arms, arms.better(), 2);
        arms.undo();
        arms.rule(0, 10);
        Check.answered("one fits", arms, arms.better(), 1);
        Check.answered("it grows most", arms, arms.outing(1, 0, 0), 1);
        arms.undo();
        arms.shift(1, 0, 4);
        arms.put(0, 1, 9, true);
        Check.answered("the week is full", arms, arms.better(), 0);
        arms.take(0, 1);
        arms.take(1, 0);
        arms.shift(0, 0, 10);
        Check.answered("above stamina", arms, arms.better(), 0);
    }

    /** A plan, found by search, in which throwers make room for one another 104 times. */
    private static void betterUpTo99() {
        ThrowArms arms = Check.told("arm a left 83 66 11 0;arm b left 82 66 6 0;arm c right 73 66 57 0;"
            + "arm d left 69 66 0 0;arm e left 52 66 27 0;arm f right 94 66 18 0;"
            + "arm g left 85 66 19 0;arm h left 81 66 33 0;game 2 9 200;game 3 1 200;"
            + "game 6 6 200;game 10 3 200;game 11 2 200;game 18 6 200;game 22 5 200;"
            + "game 23 1 200;game 28 8 200;game 32 9 200;game 33 6 200;game 39 7 200;"
            + "game 41 7 200;game 48 3 200;game 49 9 200;game 52 9 200;game 53 6 200;"
            + "game 54 8 200;game 57 6 200;game 59 2 200;edge 0;week 0;rest 9 9;"
            + "rest 10 8;rest 13 8;rest 17 0;rest 27 0");
        int[] puts = {
            2, 24, 7, 8, 1, 39, 1, 39, 6, 29, 7, 4, 6, 25, 0, 19, 4, 45, 2, 21, 0, 65, 7,
            37, 2, 26, 5, 34, 3, 65, 3, 22, 4, 64, 2, 25, 3, 4, 4, 18, 1, 25, 1, 36, 0, 35,
            6, 2, 0, 45, 4, 45, 2, 3, 3, 8, 2, 12, 5, 44, 1, 41, 4, 62, 0, 22, 7, 3, 4, 66,
            3, 36, 2, 9, 7, 4, 6, 30, 3, 53, 0, 25, 2, 22, 1, 7, 5, 29, 0, 52, 2, 18, 1,
            28, 7, 10, 2, 3, 5, 66, 6, 30, 6, 38, 4, 31, 2, 8, 1, 49, 2, 2, 4, 35, 3, 40,
            0, 17, 1, 38
        };
        for (int i = 0; i < puts.length / 2; i++) {
            arms.put(i / 3, puts[2 * i], puts[2 * i + 1], true);
        }
        Check.answered("no more than 99", arms, arms.better(), 99);
        Check.answered("what is left", arms, arms.better(), 5);
        Check.answered("nothing", arms, arms.better(), 0);
    }

    private static void fills() {
        ThrowArms arms = Check.told(TEXT);
        Check.answered("the whole game", arms, arms.fill(0), 1);
        Check.answered("of bob", arms, arms.outing(0, 0, 0), 1);
        Check.answered("all", arms, arms.outing(0, 0, 1), 90);
        Check.answered("nothing is left", arms, arms.fill(0), 0);
        Check.answered("two acts", arms, arms.about(7), 2);
        arms = Check.told(FOUR + "game 0 4 200;game 1 4 25;week 12");
        arms.put(0, 0, 9, false);
        Check.answered("two more", arms, arms.fill(0), 2);
        for (int k = 0; k < 3; k++) {
            Check.equal("who", arms.outing(0, k, 0), new int[] {0, 3, 2}[k]);
            Check.equal("throws", arms.outing(0, k, 1), new int[] {9, 10, 10}[k]);
        }
        Check.answered("three", arms, arms.fill(1), 3);
        for (int k = 0; k < 3; k++) {
            Check.equal("who", arms.outing(1, k, 0), new int[] {1, 3, 0}[k]);
            Check.equal("throws", arms.outing(1, k, 1), new int[] {10, 2, 3}[k]);
        }
        arms = Check.told("arm a left 5 10 10 0;arm b left 5 10 10 0;game 0 4 8");
        Check.answered("of like ones", arms, arms.fill(0), 1);
        Check.answered("the least", arms, arms.outing(0, 0, 0), 0);
        arms.shift(0, 0, 7);
        Check.answered("one throw is left", arms, arms.fill(0), 1);
        Check.answered("of the other one", arms, arms.outing(0, 1, 0), 1);
    }

    private static void fillsAll() {
        ThrowArms arms = Check.told(TEXT);
        arms.put(1, 2, 10, false);
        // bob 90 in game 0; ann 40 in game 1; cy 20 behind his 10 in game 2; in game 3 bob, cy
        Check.answered("all", arms, arms.fillAll(), 5);
        int[][] due = {{0, 0, 1, 90}, {1, 0, 2, 10}, {1, 1, 0, 40}, {2, 0, 2, 20}, {3, 0, 1, 100},
            {3, 1, 0, 20}};
        for (int[] row : due) {
            Check.equal("who in " + row[0], arms.outing(row[0], row[1], 0), row[2]);
            Check.equal("throws in " + row[0], arms.outing(row[0], row[1], 1), row[3]);
        }
        Check.answered("one act", arms, arms.about(7), 2);
        Check.answered("none is left", arms, arms.fillAll(), 0);
        Check.answered("an act all the same", arms, arms.about(7), 3);
        arms.undo();
        Check.answered("undone", arms, arms.undo(), 1);
        Check.answered("one outing", arms, arms.about(2), 1);
    }

    private static void becomes() {
        ThrowArms arms = Check.told(TEXT);
        int[][] bounds = {{1, 99}, {1, 120}, {0, 60}, {0, 9}};
        for (int what = 0; what < 4; what++) {
            Check.refused("below", arms, arms.become(0, what, bounds[what][0] - 1), 2);
            Check.refused("above", arms, arms.become(0, what, bounds[what][1] + 1), 2);
            int was = arms.arm(0, what + 1);
            Check.answered("least", arms, arms.become(0, what, bounds[what][0]), was);
            Check.answered("it is", arms, arms.arm(0, what + 1), bounds[what][0]);
            Check.answered("greatest", arms, arms.undo(), 0);
            Check.answered("greatest", arms, arms.become(0, what, bounds[what][1]), was);
            Check.answered("it is", arms, arms.arm(0, what + 1), bounds[what][1]);
            arms.undo();
        }
        arms.put(0, 0, 60, false);
        Check.answered("stamina", arms, arms.become(0, 1, 30), 60);
        Check.answered("tires no more", arms, arms.arm(0, 3), 30);
        Check.answered("the outing stays", arms, arms.outing(0, 0, 1), 60);
        Check.answered("it isn't allowed", arms, arms.outing(0, 0, 4), 0);
        Check.answered("its value", arms, arms.value(), 44 * 30 + 44 * 15);
        Check.answered("more again", arms, arms.become(0, 1, 60), 30);
        Check.answered("tires stays", arms, arms.arm(0, 3), 30);
        Check.answered("undone", arms, arms.undo(), 2);
        Check.answered("undone", arms, arms.undo(), 1);
        Check.answered("tires as it was", arms, arms.arm(0, 3), 40);
        Check.answered("the others stay", arms, arms.arm(1, 2), 100);
    }

    private static void rules() {
        ThrowArms arms = Check.told(TEXT);
        int[][] bounds = {{0, 500, 100}, {0, 9, 2}, {1, 60, 15}};
        for (int what = 0; what < 3; what++) {
            Check.refused("below", arms, arms.rule(what, bounds[what][0] - 1), 2);
            Check.refused("above", arms, arms.rule(what, bounds[what][1] + 1), 2);
            Check.answered("least", arms, arms.rule(what, bounds[what][0]), bounds[what][2]);
            Check.answered("it is", arms, arms.about(3 + what), bounds[what][0]);
            Check.answered("greatest", arms, arms.rule(what, bounds[what][1]), bounds[what][0]);
            Check.answered("it is", arms, arms.about(3 + what), bounds[what][1]);
        }
        Check.answered("six acts", arms, arms.about(7), 6);
        Check.answered("edge counts", arms, arms.points(0, 0), 50 - 27);
    }

    private static void restChanges() {
        ThrowArms arms = Check.told(TEXT);
        Check.refused("below", arms, arms.rests(0, -1), 2);
        Check.refused("above", arms, arms.rests(0, 10), 2);
        Check.refused("below 0", arms, arms.rests(-1, 3), 1);
        Check.answered("the first", arms, arms.rests(0, 9), 1);
        Check.answered("the second", arms, arms.rests(1, 0), 3);
        Check.answered("rest", arms, arms.rest(49), 9);
        Check.answered("rest", arms, arms.rest(50), 0);
        Check.answered("undone", arms, arms.undo(), 1);
        Check.answered("rest", arms, arms.rest(50), 3);
        arms = Check.told("arm a left 1 1 0 0;game 0 0 1");
        Check.refused("none", arms, arms.rests(0, 0), 1);
    }

    private static void undos() {
        ThrowArms arms = Check.told(TEXT);
        Check.refused("nothing to undo", arms, arms.undo(), 5);
        for (int i = 1; i <= 13; i++) {
            arms.become(0, 0, i);
            Check.answered("acts", arms, arms.about(7), Math.min(i, 10));
        }
        for (int i = 9; i >= 0; i--) {
            Check.answered("undo", arms, arms.undo(), i);
            Check.answered("strength", arms, arms.arm(0, 1), i + 3);
        }
        Check.refused("the first three stay", arms, arms.undo(), 5);
        arms.become(0, 0, 70);
        Check.answered("an act again", arms, arms.undo(), 0);
        Check.answered("strength", arms, arms.arm(0, 1), 3);
    }

    /** All that can be told, as one number. */
    private static long all(ThrowArms arms) {
        long sum = 7;
        for (int what = 0; what < 7; what++) {
            sum = 31 * sum + arms.about(what);
        }
        for (int t = 0; t < 8; t++) {
            for (int what = 0; what < 8; what++) {
                sum = 31 * sum + arms.arm(t, what);
            }
        }
        for (int g = 0; g < 20; g++) {
            for (int k = 0; k < 3; k++) {
                sum = 31 * (31 * sum + arms.outing(g, k, 0)) + arms.outing(g, k, 1);
            }
        }
        for (int x = 0; x < 121; x++) {
            sum = 31 * sum + arms.rest(x);
        }
        return sum;
    }

    private static void undoOfAll() {
        ThrowArms arms = Check.told(TEXT);
        arms.put(1, 2, 10, false);
        arms.put(3, 0, 10, false);
        for (int act = 0; act < 11; act++) {
            long ahead = all(arms);
            int acts = arms.about(7);
            act(arms, act);
            Check.equal("trouble of act " + act, arms.trouble(), 0);
            Check.isTrue("act " + act + " does something", all(arms) != ahead);
            Check.answered("an act", arms, arms.about(7), Math.min(10, acts + 1));
            Check.answered("undo", arms, arms.undo(), Math.min(9, acts));
            Check.equal("undone act " + act, all(arms), ahead);
        }
    }

    private static void act(ThrowArms arms, int which) {
        switch (which) {
            case 0: arms.put(0, 0, 1, false); break;
            case 1: arms.take(1, 0); break;
            case 2: arms.shift(1, 0, 9); break;
            case 3: arms.swap(1, 0, 3, 0); break;
            case 4: arms.better(); break;
            case 5: arms.fill(1); break;
            case 6: arms.fillAll(); break;
            case 7: arms.laid(1, 3); break;
            case 8: arms.become(1, 1, 7); break;
            case 9: arms.rule(2, 60); break;
            default: arms.rests(1, 9); break;
        }
    }

    private static void refusedActsChangeNothing() {
        ThrowArms arms = Check.told(TEXT);
        arms.put(0, 0, 60, false);
        arms.put(0, 1, 30, false);
        arms.put(1, 1, 30, false);
        long ahead = all(arms);
        arms.put(1, 0, 1, false);
        arms.put(0, 2, 1, false);
        arms.put(0, 0, 61, true);
        arms.take(2, 0);
        arms.shift(0, 0, 61);
        arms.shift(0, 1, 31);
        arms.shift(0, 1, 101);
        arms.swap(0, 0, 1, 0);
        arms.laid(0, 6);
        arms.become(0, 2, 61);
        arms.rule(0, 501);
        arms.rests(0, 10);
        Check.equal("nothing changed", all(arms), ahead);
        Check.answered("no act more", arms, arms.about(7), 3);
    }
}
