/** The bounds of promises 6 to 11: about, arm, game, rest, outing, value. */
public final class EdgeToldTest {
    private static final Edge.Scene LEAST = Edge.scene(Edge.LEAST);

    /** Two OUTINGS in GAME 0, one in GAME 3. */
    private static final Edge.Scene SMALL = Edge.scene(Edge.SMALL, x -> x.put(0, 0, 60, false),
        x -> x.put(0, 1, 30, false), x -> x.put(3, 2, 11, false));

    public static void main(String[] args) {
        withoutText();
        whatsOfAbout();
        actsOfAbout();
        throwersOfArm();
        whatsOfArm();
        gamesOfGame();
        whatsOfGame();
        throwsOfRest();
        fromOfRest();
        placesOfOuting();
        whatsOfOuting();
        valuesOfAll();
        Check.end();
    }

    /** "NONE: 1 (no TEXT ..)", ahead of all that is wrong else. */
    private static void withoutText() {
        for (int n : new int[] {-1, 0, 1, 8, 201, Edge.LOWEST, Edge.HIGHEST}) {
            Edge.refused("about", Edge.noText(), 1, x -> x.about(n));
            Edge.refused("arm", Edge.noText(), 1, x -> x.arm(n, 0));
            Edge.refused("arm", Edge.noText(), 1, x -> x.arm(0, n));
            Edge.refused("game", Edge.noText(), 1, x -> x.game(n, 0));
            Edge.refused("game", Edge.noText(), 1, x -> x.game(0, n));
            Edge.refused("rest", Edge.noText(), 1, x -> x.rest(n));
            Edge.refused("outing", Edge.noText(), 1, x -> x.outing(n, n, n));
        }
        Edge.refused("outing", Edge.noText(), 1, x -> x.outing(0, 0, 0));
        Edge.refused("value", Edge.noText(), 1, x -> x.value());
    }

    /** 0 .. 7; "NONE: 1 (.. what)". */
    private static void whatsOfAbout() {
        int[][] due = {{1, 1, 0, 0, 0, 15, 0, 0}, {3, 4, 3, 100, 2, 15, 2, 3},
            {8, 20, 60, 500, 9, 60, 5, 10}};
        Edge.Scene[] scenes = {LEAST, SMALL, Edge.full()};
        for (int i = 0; i < scenes.length; i++) {
            for (int what = 0; what <= 7; what++) {
                int which = what;
                Edge.asked("about " + what, scenes[i], due[i][what], x -> x.about(which));
            }
            for (int wrong : new int[] {-1, 8, Edge.LOWEST, Edge.HIGHEST}) {
                Edge.refused("about", scenes[i], 1, x -> x.about(wrong));
            }
        }
    }

    /** "7 ACTS that can be undone": the latest 10. */
    private static void actsOfAbout() {
        ThrowArms arms = LEAST.set();
        for (int acts = 0; acts <= 12; acts++) {
            Check.answered("ACTS", arms, arms.about(7), Math.min(10, acts));
            arms.rule(1, acts % 10);
        }
        for (int left = 9; left >= 0; left--) {
            arms.undo();
            Check.answered("ACTS", arms, arms.about(7), left);
        }
    }

    /** A THROWER from 0 to the last one. */
    private static void throwersOfArm() {
        Edge.Scene[] scenes = {LEAST, SMALL, Edge.full()};
        int[] throwers = {1, 3, 8};
        for (int i = 0; i < scenes.length; i++) {
            int last = throwers[i] - 1;
            int due = scenes[i].set().arm(last, 2);
            Check.isTrue("STAMINA", due > 0);
            Edge.asked("the last one", scenes[i], due, x -> x.arm(last, 2));
            for (int wrong : new int[] {-1, last + 1, 8, Edge.LOWEST, Edge.HIGHEST}) {
                Edge.refused("arm", scenes[i], 1, x -> x.arm(wrong, 0));
                Edge.refused("arm", scenes[i], 1, x -> x.arm(wrong, 7));
                Edge.refused("arm", scenes[i], 1, x -> x.arm(wrong, -1));
            }
        }
    }

    /** 0 .. 7; "NONE: 1 (what, too)". */
    private static void whatsOfArm() {
        // 40 of 44 points and 20 of 22; 30 of 47; 10 of 16 and 1 of 8
        int[][] due = {{0, 50, 60, 40, 2, 60, 1, 2200}, {1, 41, 100, 80, 0, 30, 1, 1410},
            {1, 18, 20, 10, 9, 11, 1, 168}};
        for (int t = 0; t < 3; t++) {
            for (int what = 0; what <= 7; what++) {
                int who = t;
                int which = what;
                Edge.asked("arm", SMALL, due[t][what], x -> x.arm(who, which));
            }
        }
        for (int wrong : new int[] {-1, 8, Edge.LOWEST, Edge.HIGHEST}) {
            Edge.refused("arm", SMALL, 1, x -> x.arm(0, wrong));
            Edge.refused("arm", SMALL, 1, x -> x.arm(2, wrong));
        }
        for (int what = 5; what <= 7; what++) {
            int which = what;
            Edge.asked("no OUTING", LEAST, 0, x -> x.arm(0, which));
        }
    }

    /** A GAME from 0 to the last one. */
    private static void gamesOfGame() {
        Edge.Scene[] scenes = {LEAST, SMALL, Edge.full()};
        int[] games = {1, 4, 20};
        int[] days = {0, 10, 59};
        for (int i = 0; i < scenes.length; i++) {
            int last = games[i] - 1;
            Edge.asked("the first one", scenes[i], 0, x -> x.game(0, 0));
            Edge.asked("the last one", scenes[i], days[i], x -> x.game(last, 0));
            for (int wrong : new int[] {-1, last + 1, 20, Edge.LOWEST, Edge.HIGHEST}) {
                Edge.refused("game", scenes[i], 1, x -> x.game(wrong, 0));
                Edge.refused("game", scenes[i], 1, x -> x.game(wrong, 5));
                Edge.refused("game", scenes[i], 1, x -> x.game(wrong, 6));
            }
        }
    }

    /** 0 .. 5; "NONE: 1 (what, too)". */
    private static void whatsOfGame() {
        int[][] due = {{0, 3, 90, 2, 0, 3610}, {2, 9, 50, 0, 50, 0}, {3, 0, 20, 0, 20, 0},
            {10, 5, 120, 1, 109, 168}};
        for (int g = 0; g < 4; g++) {
            for (int what = 0; what <= 5; what++) {
                int of = g;
                int which = what;
                Edge.asked("game", SMALL, due[g][what], x -> x.game(of, which));
            }
        }
        for (int wrong : new int[] {-1, 6, Edge.LOWEST, Edge.HIGHEST}) {
            Edge.refused("game", SMALL, 1, x -> x.game(0, wrong));
            Edge.refused("game", SMALL, 1, x -> x.game(3, wrong));
        }
        Edge.asked("three OUTINGS", Edge.full(), 3, x -> x.game(19, 3));
        Edge.asked("what is left", Edge.full(), 197, x -> x.game(19, 4));
    }

    /** "x throws (0 .. 200)"; "NONE: 1 (no TEXT); 2". */
    private static void throwsOfRest() {
        for (int wrong : new int[] {-1, 201, Edge.LOWEST, Edge.HIGHEST}) {
            Edge.refused("rest", SMALL, 2, x -> x.rest(wrong));
            Edge.refused("rest", LEAST, 2, x -> x.rest(wrong));
            Edge.refused("no TEXT is told first", Edge.noText(), 1, x -> x.rest(wrong));
        }
        Edge.asked("none told", LEAST, 0, x -> x.rest(0));
        Edge.asked("none told", LEAST, 0, x -> x.rest(200));
        Edge.asked("no throws", SMALL, 0, x -> x.rest(0));
        Edge.asked("the most that can be asked", SMALL, 3, x -> x.rest(200));
    }

    /** "DAYS of the last rest told of which FROM is x or less; 0 without". */
    private static void fromOfRest() {
        Edge.Scene scene = Edge.scene(Edge.LEAST + ";rest 1 9;rest 2 0;rest 64 5;rest 65 3;rest 120 7");
        int[][] due = {{0, 0}, {1, 9}, {2, 0}, {3, 0}, {63, 0}, {64, 5}, {65, 3}, {66, 3}, {119, 3},
            {120, 7}, {121, 7}, {200, 7}};
        for (int[] row : due) {
            Edge.asked("rest " + row[0], scene, row[1], x -> x.rest(row[0]));
        }
        Edge.asked("one alone", Edge.scene(Edge.LEAST + ";rest 120 1"), 0, x -> x.rest(119));
        Edge.asked("one alone", Edge.scene(Edge.LEAST + ";rest 120 1"), 1, x -> x.rest(120));
    }

    /** "OUTING k (0: the first)"; "NONE: 1". */
    private static void placesOfOuting() {
        Edge.asked("the first", SMALL, 0, x -> x.outing(0, 0, 0));
        Edge.asked("the last", SMALL, 1, x -> x.outing(0, 1, 0));
        Edge.asked("of the last GAME", SMALL, 2, x -> x.outing(3, 0, 0));
        for (int wrong : new int[] {-1, 2, 3, Edge.LOWEST, Edge.HIGHEST}) {
            Edge.refused("outing", SMALL, 1, x -> x.outing(0, wrong, 0));
        }
        for (int wrong : new int[] {-1, 4, 20, Edge.LOWEST, Edge.HIGHEST}) {
            Edge.refused("no such GAME", SMALL, 1, x -> x.outing(wrong, 0, 0));
        }
        Edge.refused("none in it", SMALL, 1, x -> x.outing(1, 0, 0));
        Edge.refused("one in it", SMALL, 1, x -> x.outing(3, 1, 0));
        Edge.asked("the third one of the last GAME", Edge.full(), 59 % 8, x -> x.outing(19, 2, 0));
        Edge.refused("no fourth one", Edge.full(), 1, x -> x.outing(0, 3, 0));
        Edge.refused("no fourth one", Edge.full(), 1, x -> x.outing(19, 3, 0));
        Edge.refused("gone", Edge.scene(Edge.SMALL, x -> x.put(0, 0, 1, false), x -> x.take(0, 0)),
            1, x -> x.outing(0, 0, 0));
    }

    /** 0 .. 4; "NONE: 1 (what, too)". */
    private static void whatsOfOuting() {
        int[] due = {2, 11, 168, 9, 1};
        for (int what = 0; what <= 4; what++) {
            int which = what;
            Edge.asked("outing", SMALL, due[what], x -> x.outing(3, 0, which));
        }
        for (int wrong : new int[] {-1, 5, Edge.LOWEST, Edge.HIGHEST}) {
            Edge.refused("outing", SMALL, 1, x -> x.outing(3, 0, wrong));
        }
        // 10 is TIRES, 11 is one above it
        Edge.asked("at TIRES", Edge.scene(Edge.SMALL, x -> x.put(3, 2, 10, false)), 0,
            x -> x.outing(3, 0, 3));
        Edge.asked("ALLOWED no more", Edge.scene(Edge.SMALL, x -> x.put(3, 2, 11, false),
            x -> x.become(2, 1, 10)), 0, x -> x.outing(3, 0, 4));
        Edge.asked("ALLOWED still", Edge.scene(Edge.SMALL, x -> x.put(3, 2, 11, false),
            x -> x.become(2, 1, 11)), 1, x -> x.outing(3, 0, 4));
    }

    /** "VALUES of THE PLAN together", the empty one's and the full one's. */
    private static void valuesOfAll() {
        Edge.asked("no OUTING", LEAST, 0, x -> x.value());
        Edge.asked("three", SMALL, 2200 + 1410 + 168, x -> x.value());
        int sum = 0;
        for (int i = 0; i < 60; i++) {
            int lefts = i / 3 % 10;
            int ahead = i % 8 % 2 == 0 ? 2 * lefts - 9 : 9 - 2 * lefts;
            sum += 90 + 9 * ahead;
        }
        Edge.asked("sixty", Edge.full(), sum, x -> x.value());
    }
}
