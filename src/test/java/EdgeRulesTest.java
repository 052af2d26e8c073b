/** The bounds of promises 42 to 45 (become, rule, rests, undo) and of terms IV (ACTS). */
public final class EdgeRulesTest {
    private static final Edge.Scene LEAST = Edge.scene(Edge.LEAST);
    private static final Edge.Scene SMALL = Edge.scene(Edge.SMALL, x -> x.put(0, 0, 60, false),
        x -> x.put(0, 1, 20, false), x -> x.put(3, 2, 11, false));

    public static void main(String[] args) {
        withoutText();
        noneSuchOfBecome();
        boundsOfBecome();
        tiresNoMoreThanStamina();
        outingsStay();
        whatsOfRule();
        boundsOfRule();
        placesOfRests();
        daysOfRests();
        whichIsToldFirst();
        nothingToUndo();
        latestTen();
        tenAfterUndo();
        everyActIsOne();
        refusedActsAreNone();
        undoIsNoAct();
        textLeavesNone();
        Check.end();
    }

    private static void withoutText() {
        for (int n : new int[] {-1, 0, 1, Edge.LOWEST, Edge.HIGHEST}) {
            Edge.refused("become", Edge.noText(), 1, x -> x.become(0, n, 1));
            Edge.refused("become", Edge.noText(), 1, x -> x.become(0, 0, n));
            Edge.refused("rule", Edge.noText(), 1, x -> x.rule(n, 1));
            Edge.refused("rule", Edge.noText(), 1, x -> x.rule(0, n));
            Edge.refused("rests", Edge.noText(), 1, x -> x.rests(n, 1));
            Edge.refused("rests", Edge.noText(), 1, x -> x.rests(0, n));
        }
        Edge.refused("undo", Edge.noText(), 1, x -> x.undo());
    }

    /** "NONE: 1 (what, too)". */
    private static void noneSuchOfBecome() {
        for (int wrong : new int[] {-1, 3, 8, Edge.LOWEST, Edge.HIGHEST}) {
            Edge.refused("THROWER", SMALL, 1, x -> x.become(wrong, 0, 1));
        }
        for (int wrong : new int[] {-1, 4, Edge.LOWEST, Edge.HIGHEST}) {
            Edge.refused("what", SMALL, 1, x -> x.become(0, wrong, 1));
        }
        Edge.acted("the last one", SMALL, 18, x -> x.become(2, 0, 1));
        Edge.acted("the eighth", Edge.full(), 9, x -> x.become(7, 3, 0));
        Edge.refused("the ninth", Edge.full(), 1, x -> x.become(8, 3, 0));
    }

    /** "STRENGTH (what 0, 1 .. 99), STAMINA (1, 1 .. 120), TIRES (2, 0 .. STAMINA), FRAIL (3, 0 .. 9)". */
    private static void boundsOfBecome() {
        int[][] bounds = {{1, 99}, {1, 120}, {0, 60}, {0, 9}};
        int[] was = {50, 60, 40, 2};
        for (int what = 0; what < 4; what++) {
            int which = what;
            int low = bounds[what][0];
            int high = bounds[what][1];
            for (int v : new int[] {low, low + 1, high - 1, high}) {
                Edge.acted("become " + what, SMALL, was[what], x -> x.become(0, which, v));
                ThrowArms arms = SMALL.set();
                arms.become(0, what, v);
                Check.answered("it is", arms, arms.arm(0, what + 1), v);
            }
            Edge.acted("what it was", SMALL, was[what], x -> x.become(0, which, was[which]));
            for (int v : new int[] {low - 1, high + 1, Edge.LOWEST, Edge.HIGHEST}) {
                Edge.refused("become " + what, SMALL, 2, x -> x.become(0, which, v));
            }
        }
        Edge.acted("TIRES of STAMINA 1", LEAST, 0, x -> x.become(0, 2, 1));
        Edge.refused("TIRES above it", LEAST, 2, x -> x.become(0, 2, 2));
        Edge.Scene strong = Edge.scene(Edge.LEAST, x -> x.become(0, 1, 120));
        Edge.acted("STAMINA as it is", strong, 0, x -> x.become(0, 2, 120));
        Edge.refused("above it", strong, 2, x -> x.become(0, 2, 121));
        Edge.acted("his own, not another one's", SMALL, 10, x -> x.become(2, 2, 20));
        Edge.refused("his own, not another one's", SMALL, 2, x -> x.become(2, 2, 21));
    }

    /** "TIRES then no more than that". */
    private static void tiresNoMoreThanStamina() {
        int[][] due = {{120, 40}, {41, 40}, {40, 40}, {39, 39}, {1, 1}};
        for (int[] row : due) {
            ThrowArms arms = SMALL.set();
            Check.answered("STAMINA", arms, arms.become(0, 1, row[0]), 60);
            Check.answered("TIRES", arms, arms.arm(0, 3), row[1]);
            Check.answered("of the others", arms, arms.arm(1, 3), 80);
            Check.answered("more again", arms, arms.become(0, 1, 120), row[0]);
            Check.answered("TIRES stays", arms, arms.arm(0, 3), row[1]);
            arms.undo();
            arms.undo();
            Check.answered("TIRES is back", arms, arms.arm(0, 3), 40);
            Check.answered("STAMINA is back", arms, arms.arm(0, 2), 60);
        }
    }

    /** "(OUTINGS stay)", though they have more throws than STAMINA. */
    private static void outingsStay() {
        ThrowArms arms = SMALL.set();
        arms.become(0, 1, 1);
        Check.answered("throws", arms, arms.outing(0, 0, 1), 60);
        Check.answered("not ALLOWED", arms, arms.outing(0, 0, 4), 0);
        Check.answered("VALUE by TIRES of 1", arms, arms.outing(0, 0, 2), 44 + 59 * 22);
        Check.answered("RISK by TIRES of 1", arms, arms.outing(0, 0, 3), 2 * 59);
        Check.answered("what is left", arms, arms.game(0, 4), 10);
    }

    /** "NONE: 1 (no TEXT, what)". */
    private static void whatsOfRule() {
        for (int wrong : new int[] {-1, 3, Edge.LOWEST, Edge.HIGHEST}) {
            Edge.refused("rule", SMALL, 1, x -> x.rule(wrong, 1));
            Edge.refused("rule", LEAST, 1, x -> x.rule(wrong, 1));
        }
    }

    /** "WEEK (what 0, 0 .. 500), EDGE (1, 0 .. 9), out (2, 1 .. 60)". */
    private static void boundsOfRule() {
        int[][] bounds = {{0, 500, 100}, {0, 9, 2}, {1, 60, 15}};
        for (int what = 0; what < 3; what++) {
            int which = what;
            int low = bounds[what][0];
            int high = bounds[what][1];
            int was = bounds[what][2];
            for (int v : new int[] {low, low + 1, was, high - 1, high}) {
                Edge.acted("rule " + what, SMALL, was, x -> x.rule(which, v));
                ThrowArms arms = SMALL.set();
                arms.rule(what, v);
                Check.answered("it is", arms, arms.about(3 + what), v);
            }
            for (int v : new int[] {low - 1, high + 1, Edge.LOWEST, Edge.HIGHEST}) {
                Edge.refused("rule " + what, SMALL, 2, x -> x.rule(which, v));
            }
        }
        int[] without = {0, 0, 15};
        for (int what = 0; what < 3; what++) {
            int which = what;
            Edge.acted("without", LEAST, without[what], x -> x.rule(which, 3));
        }
    }

    /** "DAYS of rest i (0: the first)"; "NONE: 1". */
    private static void placesOfRests() {
        for (int wrong : new int[] {-1, 2, 5, Edge.LOWEST, Edge.HIGHEST}) {
            Edge.refused("rests", SMALL, 1, x -> x.rests(wrong, 1));
        }
        Edge.refused("none told", LEAST, 1, x -> x.rests(0, 1));
        Edge.acted("the first", SMALL, 1, x -> x.rests(0, 7));
        Edge.acted("the last", SMALL, 3, x -> x.rests(1, 7));
        for (int i = 0; i < 5; i++) {
            int place = i;
            Edge.acted("rest " + i, Edge.full(), i, x -> x.rests(place, 9));
            ThrowArms arms = Edge.full().set();
            arms.rests(i, 9);
            for (int other = 0; other < 5; other++) {
                int due = other == i ? 9 : other;
                Check.answered("rest", arms, arms.rest(116 + other), due);
            }
        }
        Edge.refused("no sixth one", Edge.full(), 1, x -> x.rests(5, 1));
    }

    /** "v (0 .. 9)"; "2". */
    private static void daysOfRests() {
        for (int v : new int[] {0, 1, 8, 9}) {
            Edge.acted("rests", SMALL, 3, x -> x.rests(1, v));
            ThrowArms arms = SMALL.set();
            arms.rests(1, v);
            Check.answered("rest", arms, arms.rest(50), v);
            Check.answered("the other one stays", arms, arms.rest(49), 1);
        }
        for (int v : new int[] {-1, 10, Edge.LOWEST, Edge.HIGHEST}) {
            Edge.refused("rests", SMALL, 2, x -> x.rests(1, v));
            Edge.refused("rests", SMALL, 2, x -> x.rests(0, v));
        }
    }

    /** 1 ahead of 2. */
    private static void whichIsToldFirst() {
        Edge.refused("THROWER", SMALL, 1, x -> x.become(3, 0, 0));
        Edge.refused("what", SMALL, 1, x -> x.become(0, 4, -1));
        Edge.refused("what", SMALL, 1, x -> x.rule(3, -1));
        Edge.refused("rest", SMALL, 1, x -> x.rests(2, 10));
        Edge.refused("rest", LEAST, 1, x -> x.rests(0, 10));
    }

    /** "NONE: .. 5". */
    private static void nothingToUndo() {
        Edge.refused("no ACT", LEAST, 5, x -> x.undo());
        Edge.refused("undone", Edge.scene(Edge.LEAST, x -> x.rule(0, 7), x -> x.undo()), 5,
            x -> x.undo());
    }

    /** "the latest 10 that weren't refused can be undone, the latest first". */
    private static void latestTen() {
        for (int acts : new int[] {1, 9, 10, 11, 12, 20, 25}) {
            ThrowArms arms = LEAST.set();
            for (int i = 1; i <= acts; i++) {
                Check.answered("what it was", arms, arms.rule(0, i), i - 1);
                Check.answered("ACTS", arms, arms.about(7), Math.min(i, 10));
            }
            int can = Math.min(acts, 10);
            for (int left = can - 1; left >= 0; left--) {
                Check.answered("undo", arms, arms.undo(), left);
                Check.answered("ACTS", arms, arms.about(7), left);
                Check.answered("WEEK", arms, arms.about(3), acts - can + left);
            }
            Check.refused("no more", arms, arms.undo(), 5);
            Check.answered("WEEK", arms, arms.about(3), acts - can);
        }
    }

    /** What was undone makes room for others; what is too old doesn't come back. */
    private static void tenAfterUndo() {
        ThrowArms arms = LEAST.set();
        for (int i = 1; i <= 13; i++) {
            arms.rule(0, i);
        }
        for (int i = 0; i < 4; i++) {
            arms.undo();
        }
        Check.answered("six are left", arms, arms.about(7), 6);
        for (int i = 1; i <= 4; i++) {
            arms.rule(0, 100 + i);
        }
        Check.answered("ten again", arms, arms.about(7), 10);
        arms.rule(0, 105);
        Check.answered("ten still", arms, arms.about(7), 10);
        int[] due = {104, 103, 102, 101, 9, 8, 7, 6, 5, 4};
        for (int i = 0; i < 10; i++) {
            Check.answered("undo", arms, arms.undo(), 9 - i);
            Check.answered("WEEK", arms, arms.about(3), due[i]);
        }
        Check.refused("no more", arms, arms.undo(), 5);
    }

    /** Each of the eleven calls that say ACT is one, also if it changes nothing or much. */
    private static void everyActIsOne() {
        Edge.Call[] acts = {x -> x.put(1, 1, 10, false), x -> x.take(0, 1), x -> x.shift(0, 1, 9),
            x -> x.swap(0, 1, 3, 0) ? 1 : -1, x -> x.better(), x -> x.fill(1), x -> x.fillAll(),
            x -> x.laid(0, 4), x -> x.become(0, 0, 50), x -> x.rule(0, 100), x -> x.rests(0, 1)};
        for (Edge.Call act : acts) {
            ThrowArms arms = SMALL.set();
            Check.isTrue("not refused", act.on(arms) != ThrowArms.NONE);
            Check.equal("trouble", arms.trouble(), 0);
            Check.answered("one ACT more", arms, arms.about(7), 4);
            Check.answered("undone", arms, arms.undo(), 3);
            Check.answered("OUTINGS", arms, arms.about(2), 3);
            Check.answered("VALUES", arms, arms.value(), 2200 + 20 * 47 + 168);
        }
    }

    /** "that weren't refused". */
    private static void refusedActsAreNone() {
        Edge.Call[] acts = {x -> x.put(1, 0, 10, false), x -> x.take(1, 0), x -> x.shift(0, 1, 31),
            x -> x.swap(0, 1, 0, 0) ? 1 : -1, x -> x.fill(4), x -> x.laid(0, 5),
            x -> x.become(0, 0, 0), x -> x.rule(0, 501), x -> x.rests(0, 10)};
        ThrowArms arms = SMALL.set();
        for (Edge.Call act : acts) {
            Check.equal("refused", act.on(arms), ThrowArms.NONE);
            Check.answered("no ACT more", arms, arms.about(7), 3);
        }
        Check.answered("the latest", arms, arms.undo(), 2);
        Check.answered("is that of GAME 3", arms, arms.game(3, 3), 0);
    }

    /** undo() doesn't say ACT, nor do the calls that ask. */
    private static void undoIsNoAct() {
        ThrowArms arms = SMALL.set();
        arms.undo();
        Check.answered("two are left", arms, arms.about(7), 2);
        arms.best(0, 1);
        arms.pair(0, 10, 0);
        arms.season(1, 0);
        arms.span(1, 5, 0);
        arms.clash(0, 0, 1);
        Check.answered("two still", arms, arms.about(7), 2);
        Check.answered("one", arms, arms.undo(), 1);
        Check.answered("none", arms, arms.undo(), 0);
        Check.refused("no more", arms, arms.undo(), 5);
        Check.answered("THE PLAN is empty", arms, arms.about(2), 0);
    }

    /** "(a TEXT leaves none, and THE PLAN is empty)"; a faulty one leaves them. */
    private static void textLeavesNone() {
        ThrowArms arms = SMALL.set();
        Check.equal("a FAULT", Check.tell(arms, Edge.SMALL + ";"), -1);
        Check.answered("three are left", arms, arms.about(7), 3);
        Check.answered("undone", arms, arms.undo(), 2);
        Check.refused("refused by 2", arms, arms.text(1), 2);
        Check.answered("two are left", arms, arms.about(7), 2);
        Check.answered("a TEXT", arms, Check.tell(arms, Edge.SMALL), 4);
        Check.answered("none is left", arms, arms.about(7), 0);
        Check.answered("THE PLAN is empty", arms, arms.about(2), 0);
        Check.refused("no more", arms, arms.undo(), 5);
        arms.rule(0, 7);
        Check.answered("one", arms, arms.undo(), 0);
        Check.refused("no more", arms, arms.undo(), 5);
    }
}
