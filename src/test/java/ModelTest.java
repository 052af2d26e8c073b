import java.util.ArrayList;
import java.util.List;
import java.util.Random;

/** Drawn runs of calls, on the class and on the Model: every answer must be the same. */
public final class ModelTest {
    private static final int RUNS = 3000;
    private static final int CALLS = 250;

    /**
     * A call, how often it is drawn, and what its numbers are: g GAME, t THROWER, x throws, k place
     * of an OUTING, w a what, n a count of GAMES, d DAY, s seed, m seeds, v a value, b true or
     * false, i which one, o bytes.
     */
    private static final String[] CALLED = {
        "about 2 w", "arm 4 tw", "game 3 gw", "rest 2 x", "outing 6 gkw", "value 2", "points 2 tg",
        "worth 3 tgx", "most 5 tg", "when 4 tgx", "ranked 3 gt", "extra 3 g", "clash 8 tgx",
        "best 2 gn", "bestOf 2 gni", "pair 5 gxi", "breaches 3", "breach 5 i", "work 3 td",
        "busiest 3 ti", "idle 3 t", "gap 3 t", "hands 2 gb", "bare 3 i", "risk 2 t", "sound 4 ti",
        "season 6 sw", "span 2 smi", "put 40 gtxb", "take 8 gk", "shift 9 gkx", "swap 12 gkgk",
        "better 3", "fill 6 g", "fillAll 1", "laid 1 gn", "become 8 twv", "rule 5 iv",
        "rests 4 iv", "undo 6", "named 2 o", "size 1", "fault 1", "text 1 o"
    };

    private final Random random;
    private final List<String> drawn = new ArrayList<>();
    private Twins twins;
    private int armCount;
    private int gameCount;

    private ModelTest(long seed) {
        random = new Random(seed);
        for (String call : CALLED) {
            String[] parts = call.split(" ");
            for (int i = 0; i < Integer.parseInt(parts[1]); i++) {
                drawn.add(parts[0] + " " + (parts.length > 2 ? parts[2] : ""));
            }
        }
    }

    public static void main(String[] args) {
        long seed = args.length > 0 ? Long.parseLong(args[0]) : 1;
        int runs = args.length > 1 ? Integer.parseInt(args[1]) : RUNS;
        ModelTest test = new ModelTest(seed);
        for (int run = 0; run < runs; run++) {
            if (!test.run(run)) {
                System.out.println("run " + run + " of seed " + seed + " differs:");
                System.out.println(test.twins.log);
                Check.isTrue("class and model answer alike", false);
                break;
            }
        }
        Check.isTrue("runs were made", runs > 0);
        Check.end();
    }

    private boolean run(int number) {
        twins = new Twins();
        for (int i = 0; i < CALLS; i++) {
            boolean same;
            if (i == 3 || random.nextInt(120) == 0) {
                same = tell(number % 3 == 0 ? 0.5 : 0.05);
            } else if (random.nextInt(60) == 0) {
                same = feedAlone();
            } else {
                String[] call = drawn.get(random.nextInt(drawn.size())).split(" ", -1);
                same = twins.call(call[0], numbers(call[1]));
            }
            if (!same || !twins.call("trouble") || !twins.call("where")) {
                return false;
            }
        }
        return true;
    }

    private Object[] numbers(String kinds) {
        Object[] numbers = new Object[kinds.length()];
        for (int i = 0; i < numbers.length; i++) {
            char kind = kinds.charAt(i);
            numbers[i] = kind == 'b' ? (Object) (random.nextInt(3) == 0) : (Object) number(kind);
        }
        return numbers;
    }

    private int number(char kind) {
        int odd = random.nextInt(300);
        if (odd < 4) {
            return new int[] {Integer.MIN_VALUE, Integer.MAX_VALUE, -1, -2}[odd];
        }
        switch (kind) {
            case 'g': return random.nextInt(Math.max(1, gameCount)) + (odd < 14 ? 1 : 0);
            case 't': return random.nextInt(Math.max(1, armCount)) + (odd < 14 ? 1 : 0);
            case 'x': return throwsDrawn();
            case 'k': return random.nextInt(10) < 7 ? 0 : random.nextInt(4);
            case 'w': return random.nextInt(10) == 0 ? random.nextInt(10) : random.nextInt(5);
            case 'n': return random.nextInt(12) == 0 ? random.nextInt(7) : 1 + random.nextInt(3);
            case 'd': return random.nextInt(62) - 1;
            case 's': return random.nextInt(5) == 0 ? 2147483640 + random.nextInt(8)
                : 1 + random.nextInt(1000000000);
            case 'm': return random.nextInt(20) == 0 ? random.nextInt(103) : 1 + random.nextInt(6);
            case 'v': return valueDrawn();
            case 'i': return random.nextInt(random.nextInt(3) == 0 ? 7 : 3);
            default: return random.nextInt(5) == 0 ? random.nextInt(803) : random.nextInt(30);
        }
    }

    private int throwsDrawn() {
        switch (random.nextInt(6)) {
            case 0: return random.nextInt(5);
            case 1: return 118 + random.nextInt(5);
            case 2: return random.nextInt(203);
            default: return 1 + random.nextInt(60);
        }
    }

    private int valueDrawn() {
        int[] most = {11, 11, 20, 62, 100, 122, 502};
        return random.nextInt(most[random.nextInt(most.length)]);
    }

    /** A TEXT comes, now and then with a FAULT; what was on THE TAPE mostly goes ahead of it. */
    private boolean tell(double faulty) {
        int size = twins.arms.size();
        if (size > 0 && random.nextInt(10) > 0 && !twins.call("text", size)) {
            return false;
        }
        boolean spoilt = random.nextDouble() < faulty;
        boolean tooMany = spoilt && random.nextInt(3) == 0;
        String text = tooMany ? longText() : text();
        spoilt = spoilt && !tooMany;
        for (int i = 0; spoilt && i < 1 + random.nextInt(2); i++) {
            text = spoil(text);
        }
        boolean same = twins.feed(text);
        int n = twins.arms.size();
        if (random.nextBoolean()) {
            n = Math.min(n, text.length());
        }
        same = same && twins.callAndTrouble("text", n) && twins.call("fault");
        gameCount = Math.max(0, twins.model.about(1));
        armCount = Math.max(0, twins.model.about(0));
        return same && twins.call("about", 0);
    }

    /** Only something for named(). */
    private boolean feedAlone() {
        if (twins.arms.size() > 100 && !twins.call("text", 0)) {
            return false;
        }
        String blanks = " ".repeat(random.nextInt(6));
        return twins.feed(blanks + (char) ('a' + random.nextInt(9))) && twins.call("named", 20);
    }

    private String text() {
        List<String> lines = new ArrayList<>();
        int style = random.nextInt(4);
        int throwers = 1 + random.nextInt(style == 0 ? 8 : 5);
        for (int t = 0; t < throwers; t++) {
            lines.add(armLine(t, style));
        }
        if (random.nextInt(4) > 0) {
            lines.add("week" + blank() + (random.nextInt(5) == 0 ? random.nextInt(501)
                : 40 + random.nextInt(160)));
        }
        if (random.nextInt(4) > 0) {
            lines.add("edge" + blank() + random.nextInt(10));
        }
        if (random.nextInt(4) > 0) {
            lines.add("out " + (1 + random.nextInt(random.nextInt(4) == 0 ? 60 : 12)));
        }
        shuffle(lines);
        insertRising(lines, restLines());
        insertRising(lines, gameLines(style));
        StringBuilder text = new StringBuilder();
        for (String line : lines) {
            text.append(text.length() == 0 ? "" : blank() + ";" + blank()).append(line);
        }
        return text.toString();
    }

    /** Short lines, of which there are too many now and then. */
    private String longText() {
        List<String> lines = new ArrayList<>();
        int throwers = 1 + random.nextInt(9);
        for (int t = 0; t < throwers; t++) {
            lines.add("arm " + (char) ('a' + random.nextInt(60) % 26) + " left 9 9 9 9");
        }
        for (int i = random.nextInt(5); i > 0; i--) {
            lines.add(new String[] {"week 0", "edge 3", "out 1"}[random.nextInt(3)]);
        }
        List<String> games = new ArrayList<>();
        int count = random.nextInt(3) == 0 ? random.nextInt(4) : 17 + random.nextInt(5);
        for (int g = 0; g < count; g++) {
            games.add("game " + (2 * g + random.nextInt(40) / 38 * 2) + " 5 99");
        }
        List<String> rests = new ArrayList<>();
        for (int i = 1 + random.nextInt(6); i > 0; i--) {
            rests.add("rest " + 7 * (7 - i) + " 2");
        }
        insertRising(lines, rests);
        insertRising(lines, games);
        return String.join(";", lines);
    }

    private String armLine(int t, int style) {
        int stamina = style == 1 ? 20 + random.nextInt(4) : 1 + random.nextInt(120);
        int strength = style == 2 ? 1 + random.nextInt(9) : 1 + random.nextInt(99);
        strength = style == 1 ? 50 : strength;
        int tires = style == 1 ? 20 : random.nextInt(stamina + 1);
        return "arm" + " " + (char) ('a' + t) + (random.nextInt(8) == 0 ? "zzzzzz" : "")
            + (random.nextBoolean() ? " left " : " right ") + strength + " " + stamina + " "
            + tires + " " + random.nextInt(10);
    }

    private List<String> restLines() {
        List<String> lines = new ArrayList<>();
        int from = 0;
        int count = random.nextInt(6);
        for (int i = 0; i < count; i++) {
            from += 1 + random.nextInt(28);
            if (from <= 120) {
                lines.add("rest " + from + " " + random.nextInt(random.nextInt(4) == 0 ? 10 : 5));
            }
        }
        return lines;
    }

    private List<String> gameLines(int style) {
        List<String> lines = new ArrayList<>();
        int day = random.nextInt(5) - 1;
        int count = 1 + random.nextInt(style == 0 ? 20 : 9);
        for (int i = 0; i < count; i++) {
            day += 1 + random.nextInt(random.nextInt(4) == 0 ? 9 : 3);
            if (day <= 59) {
                lines.add("game " + day + " " + random.nextInt(10) + " "
                    + (1 + random.nextInt(random.nextInt(3) == 0 ? 30 : 200)));
            }
        }
        return lines;
    }

    private String blank() {
        return " ".repeat(random.nextInt(3) / 2);
    }

    private void shuffle(List<String> lines) {
        for (int i = lines.size() - 1; i > 0; i--) {
            String line = lines.remove(random.nextInt(i + 1));
            lines.add(line);
        }
    }

    /** Lines that must come in their order, among others. */
    private void insertRising(List<String> lines, List<String> rising) {
        int at = 0;
        for (String line : rising) {
            at += random.nextInt(lines.size() - at + 1);
            lines.add(at, line);
            at++;
        }
    }

    private String spoil(String text) {
        if (text.isEmpty()) {
            return ";";
        }
        int i = random.nextInt(text.length());
        String signs = " ;azAZ09\u0000\u00ffrmg19";
        char sign = signs.charAt(random.nextInt(signs.length()));
        String[] words = {"arm", "game", "rest", "week", "edge 1", "out 3", "left", ";", " 7 ",
            "arm q left 1 1 1 1;", "game 59 1 1;", "rest 120 9;", ";week 0;", "; arm a"};
        switch (random.nextInt(6)) {
            case 0: return text.substring(0, i);
            case 1: return text.substring(0, i) + text.substring(i + 1);
            case 2: return text.substring(0, i) + sign + text.substring(i);
            case 3: return text.substring(0, i) + sign + text.substring(i + 1);
            case 4: return text.substring(0, i) + words[random.nextInt(words.length)]
                + text.substring(i);
            default: return text.replaceFirst(words[random.nextInt(4)], sign + "");
        }
    }
}
