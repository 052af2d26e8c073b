import java.util.ArrayList;
import java.util.List;

/**
 * Calls at the bounds. Each is made on an object whose latest text() had a FAULT, so that trouble()
 * and where() must change by the call, and is held against a like object without the call.
 */
final class Edge {
    /** A small text: POINTS are 44 68 32 52 of ann, 47 23 59 39 of bob, 24 0 36 16 of cy. */
    static final String SMALL = "arm ann left 50 60 40 2;arm bob right 41 100 80 0;"
        + "arm cy right 18 20 10 9;game 0 3 90;game 2 9 50;game 3 0 20;game 10 5 120;"
        + "rest 20 1;rest 50 3;week 100;edge 2";

    /** The least that a text can be. */
    static final String LEAST = "arm a left 1 1 0 0;game 0 0 1";

    static final int LOWEST = Integer.MIN_VALUE;
    static final int HIGHEST = Integer.MAX_VALUE;

    /** A call of the face; of swap() -1 stands for false. */
    interface Call {
        long on(ThrowArms arms);
    }

    /** How an object comes to where the call is tried: the same whenever it is asked for. */
    interface Scene {
        ThrowArms set();
    }

    private Edge() {
    }

    /** An object with a text and, behind it, some calls. */
    static Scene scene(String text, Call... calls) {
        return () -> {
            ThrowArms arms = Check.told(text);
            for (Call call : calls) {
                call.on(arms);
                Check.equal("trouble() in a scene", arms.trouble(), 0);
            }
            return arms;
        };
    }

    static Scene noText() {
        return ThrowArms::new;
    }

    /** As many of everything as there may be; GAME g is on DAY 3g, the last one on DAY 59. */
    static String fullText() {
        StringBuilder text = new StringBuilder("week 500;edge 9;out 60");
        for (int t = 0; t < 8; t++) {
            text.append(";arm ").append((char) ('a' + t)).append(t % 2 == 0 ? " left" : " right");
            text.append(" 90 120 60 9");
        }
        for (int g = 0; g < 20; g++) {
            text.append(";game ").append(g < 19 ? 3 * g : 59).append(' ').append(g % 10);
            text.append(" 200");
        }
        for (int i = 0; i < 5; i++) {
            text.append(";rest ").append(116 + i).append(' ').append(i);
        }
        return text.toString();
    }

    /** Three OUTINGS of one throw in each of the twenty GAMES. */
    static Scene full() {
        return () -> {
            ThrowArms arms = Check.told(fullText());
            for (int i = 0; i < 60; i++) {
                arms.put(i / 3, i % 8, 1, false);
                Check.equal("trouble() of a put", arms.trouble(), 0);
            }
            return arms;
        };
    }

    private static ThrowArms primed(Scene scene) {
        ThrowArms arms = scene.set();
        Check.equal("a fault", Check.tell(arms, "?"), ThrowArms.NONE);
        Check.equal("trouble() of a fault", arms.trouble(), 4);
        Check.equal("where() of a fault", arms.where(), 0);
        return arms;
    }

    /** The call is refused by a number and changes nothing but trouble() and where(). */
    static void refused(String what, Scene scene, int number, Call call) {
        ThrowArms tried = primed(scene);
        Check.refused(what, tried, call.on(tried), number);
        Check.equal("fault() of " + what, tried.fault(), 1);
        Check.isTrue(what + " changes nothing", state(tried).equals(state(primed(scene))));
    }

    /** The call answers and changes nothing. */
    static void asked(String what, Scene scene, long due, Call call) {
        ThrowArms tried = primed(scene);
        Check.answered(what, tried, call.on(tried), due);
        Check.equal("fault() of " + what, tried.fault(), 1);
        Check.isTrue(what + " changes nothing", state(tried).equals(state(primed(scene))));
    }

    /** The call is an ACT that isn't refused: one ACT more, and undo() brings all back. */
    static void acted(String what, Scene scene, long due, Call call) {
        ThrowArms ahead = primed(scene);
        int acts = ahead.about(7);
        ThrowArms tried = primed(scene);
        Check.answered(what, tried, call.on(tried), due);
        Check.equal("fault() of " + what, tried.fault(), 1);
        int then = Math.min(10, acts + 1);
        Check.answered("ACTS behind " + what, tried, tried.about(7), then);
        Check.answered("undo of " + what, tried, tried.undo(), then - 1);
        Check.isTrue("undone: " + what, told(tried).equals(told(ahead)));
    }

    /** All that can be told of an object but its ACTS. */
    private static List<Long> told(ThrowArms arms) {
        List<Long> all = new ArrayList<>();
        all.add((long) arms.size());
        all.add((long) arms.fault());
        for (int what = 0; what < 7; what++) {
            all.add((long) arms.about(what));
        }
        int throwers = arms.about(0);
        for (int t = 0; t < throwers; t++) {
            for (int what = 0; what < 8; what++) {
                all.add((long) arms.arm(t, what));
            }
        }
        int games = arms.about(1);
        for (int g = 0; g < games; g++) {
            tellGame(arms, g, all);
        }
        for (int x = 0; x <= 120 && arms.about(6) > 0; x++) {
            all.add((long) arms.rest(x));
        }
        return all;
    }

    private static void tellGame(ThrowArms arms, int g, List<Long> all) {
        for (int what = 0; what < 4; what++) {
            all.add((long) arms.game(g, what));
        }
        for (int k = arms.game(g, 3) - 1; k >= 0; k--) {
            all.add((long) arms.outing(g, k, 0));
            all.add((long) arms.outing(g, k, 1));
        }
    }

    /** All that can be told, and what every undo() then brings back. */
    private static List<Long> state(ThrowArms arms) {
        List<Long> all = told(arms);
        int acts = Math.max(0, arms.about(7));
        all.add((long) acts);
        for (int i = 0; i < acts; i++) {
            all.add((long) arms.undo());
            all.add((long) arms.value());
            all.add((long) arms.breaches());
            all.add((long) arms.about(2));
        }
        return all;
    }
}
