/** As many throwers, games, rests and outings as there may be: every call with every number. */
public final class CrowdedTest {
    private static final int ARMS = 8;
    private static final int GAMES = 20;

    private final Twins twins = new Twins();
    private boolean same = true;

    public static void main(String[] args) {
        CrowdedTest test = new CrowdedTest();
        test.tell();
        test.askAll();
        test.putAll();
        test.askAll();
        test.actAll();
        test.askAll();
        if (!test.same) {
            System.out.println(test.twins.log);
        }
        Check.isTrue("class and model answer alike", test.same);
        Check.end();
    }

    /** Stops at the first answer that differs, so that the log ends with it. */
    private void call(String name, Object... numbers) {
        same = same && twins.callAndTrouble(name, numbers);
    }

    private void tell() {
        StringBuilder text = new StringBuilder("week 150;edge 3;out 9");
        for (int t = 0; t < ARMS; t++) {
            text.append(";arm ").append((char) ('a' + t)).append(t % 3 == 0 ? " left " : " right ");
            text.append(41 + t * 5 % 11).append(" ").append(99 + t).append(" 30 ").append(9 - t);
        }
        for (int g = 0; g < GAMES; g++) {
            text.append(";game ").append(3 * g + g / 10).append(' ').append(g % 10).append(" 100");
        }
        text.append(";rest 10 1;rest 30 2;rest 50 3;rest 70 5;rest 90 4");
        same = same && twins.feed(text.toString());
        call("text", twins.arms.size());
        call("about", 1);
    }

    private void putAll() {
        for (int g = 0; g < GAMES; g++) {
            for (int k = 0; k < 3; k++) {
                call("put", g, (3 * g + 2 * k) % ARMS, 20 + (g + k * 5) % 17, true);
            }
        }
        call("about", 2);
    }

    private void actAll() {
        call("better");
        for (int g = 0; g < GAMES; g += 2) {
            call("take", g, g % 3);
        }
        call("fillAll");
        call("laid", 17, 3);
        call("laid", 0, 2);
        for (int g = 0; g + 1 < GAMES; g++) {
            for (int k = 0; k < 3; k++) {
                call("swap", g, k, g + 1, (g + k) % 3);
                call("shift", g, k, 3 + 7 * k);
            }
        }
        for (int t = 0; t < ARMS; t++) {
            call("become", t, t % 4, 5 + t % 4);
        }
        call("undo");
        call("rule", 0, 77);
        call("rests", 4, 2);
        call("fill", 19);
    }

    private void askAll() {
        for (int what = -1; what < 9; what++) {
            call("about", what);
            call("season", 7 + 1000 * what, what);
            call("span", 1000, 50, what);
        }
        call("value");
        call("breaches");
        for (int k = -1; k < 62; k++) {
            call("breach", k);
            call("bare", k);
        }
        for (int t = -1; t <= ARMS; t++) {
            askArm(t);
        }
        for (int g = -1; g <= GAMES; g++) {
            askGame(g);
        }
    }

    private void askArm(int t) {
        for (int what = -1; what < 9; what++) {
            call("arm", t, what);
            call("busiest", t, what);
            call("sound", t, what);
        }
        call("idle", t);
        call("gap", t);
        call("risk", t);
        for (int d = -1; d < 61; d++) {
            call("work", t, d);
        }
        for (int g = -1; g <= GAMES; g++) {
            call("points", t, g);
            call("most", t, g);
            for (int x : new int[] {0, 1, 9, 10, 29, 30, 31, 99, 106, 120, 121}) {
                call("worth", t, g, x);
                call("clash", t, g, x);
                call("when", t, g, x);
            }
        }
    }

    private void askGame(int g) {
        for (int what = -1; what < 7; what++) {
            call("game", g, what);
            for (int k = -1; k < 4; k++) {
                call("outing", g, k, what);
            }
        }
        for (int i = -1; i <= ARMS; i++) {
            call("ranked", g, i);
        }
        call("extra", g);
        call("hands", g, true);
        call("hands", g, false);
        for (int what = -1; what < 4; what++) {
            call("pair", g, 1 + (3 * g + 119) % 120, what);
        }
        call("best", g, 2);
        for (int i = -1; i < 3; i++) {
            call("bestOf", g, 2, i);
        }
        call("bestOf", g, 3, g % 3);
    }
}
