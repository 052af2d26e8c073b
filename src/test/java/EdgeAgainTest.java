/** What a call finds out it leaves to no other call: behind any other one it answers the same. */
public final class EdgeAgainTest {
    private static final Edge.Scene SCENE = Edge.scene("arm a left 50 60 40 9;arm b right 40 50 9 8;"
        + "arm c left 30 50 50 0;game 0 4 90;game 1 9 50;game 2 0 60;game 3 4 50;game 9 5 80;"
        + "rest 20 1;rest 50 2;week 90;edge 2;out 3", x -> x.put(0, 0, 55, false),
        x -> x.put(0, 1, 10, false), x -> x.put(1, 2, 50, false), x -> x.put(3, 1, 45, false),
        x -> x.put(4, 0, 60, false), x -> x.put(4, 2, 5, true), x -> x.put(2, 0, 9, true));

    private static final Edge.Call[] CALLS = {
        x -> x.about(2), x -> x.arm(1, 5), x -> x.game(0, 5), x -> x.rest(50),
        x -> x.outing(2, 0, 4), x -> x.value(), x -> x.points(1, 2), x -> x.worth(0, 1, 57),
        x -> x.most(1, 2), x -> x.most(0, 3), x -> x.when(2, 0, 40), x -> x.ranked(2, 1),
        x -> x.extra(3), x -> x.clash(0, 1, 61), x -> x.clash(2, 3, 50), x -> x.best(0, 1),
        x -> x.best(0, 5), x -> x.best(2, 2), x -> x.bestOf(0, 5, 3), x -> x.bestOf(2, 2, 1),
        x -> x.bestOf(1, 3, 0), x -> x.pair(0, 30, 0), x -> x.pair(0, 30, 2),
        x -> x.pair(1, 50, 1), x -> x.pair(3, 1, 0), x -> x.breaches(), x -> x.breach(1),
        x -> x.work(0, 6), x -> x.busiest(0, 1), x -> x.idle(1), x -> x.gap(0),
        x -> x.hands(4, false), x -> x.bare(0), x -> x.risk(1), x -> x.sound(0, 0),
        x -> x.season(1, 0), x -> x.season(5, 1), x -> x.season(5, 2), x -> x.season(77, 3),
        x -> x.season(9, 4), x -> x.season(20, 4), x -> x.span(1, 9, 0), x -> x.span(3, 9, 1),
        x -> x.span(3, 9, 2), x -> x.swap(0, 0, 4, 1) ? 1 : -1, x -> x.put(0, 2, 99, false),
        x -> x.put(1, 0, 20, false), x -> x.shift(2, 0, 59), x -> x.laid(4, 2), x -> x.fill(5),
        x -> x.become(0, 0, 0), x -> x.rule(1, 10), x -> x.rests(2, 1), x -> x.text(1)
    };

    public static void main(String[] args) {
        oneBehindAnother();
        actsBetween();
        Check.end();
    }

    private static String answer(ThrowArms arms, Edge.Call call) {
        return call.on(arms) + " with " + arms.trouble() + " at " + arms.where();
    }

    /** Each call behind each, none of which changes anything. */
    private static void oneBehindAnother() {
        for (int i = 0; i < CALLS.length; i++) {
            String due = answer(SCENE.set(), CALLS[i]);
            for (int j = 0; j < CALLS.length; j++) {
                ThrowArms arms = SCENE.set();
                CALLS[j].on(arms);
                String got = answer(arms, CALLS[i]);
                Check.isTrue("call " + i + " behind " + j + ": " + got + ", due is " + due,
                    got.equals(due));
            }
        }
    }

    /** All calls behind an ACT that is undone again. */
    private static void actsBetween() {
        Edge.Call[] acts = {x -> x.put(3, 0, 1, true), x -> x.take(0, 0), x -> x.shift(3, 0, 5),
            x -> x.swap(0, 1, 4, 1) ? 1 : 0, x -> x.better(), x -> x.fill(3), x -> x.fillAll(),
            x -> x.laid(0, 5), x -> x.become(0, 1, 1), x -> x.rule(0, 1), x -> x.rests(0, 9)};
        for (int j = 0; j < acts.length; j++) {
            for (int i = 0; i < CALLS.length; i++) {
                ThrowArms arms = SCENE.set();
                acts[j].on(arms);
                Check.equal("trouble of act " + j, arms.trouble(), 0);
                CALLS[i].on(arms);
                // an ACT that CALLS has isn't refused behind every other ACT
                while (arms.about(7) >= 8) {
                    arms.undo();
                }
                String due = answer(SCENE.set(), CALLS[i]);
                String got = answer(arms, CALLS[i]);
                Check.isTrue("call " + i + " behind act " + j + ": " + got + ", due is " + due,
                    got.equals(due));
            }
        }
    }
}
