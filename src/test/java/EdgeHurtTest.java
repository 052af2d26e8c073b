import java.math.BigInteger;
import java.util.Arrays;

/** The bounds of promises 30 to 33: risk, sound, season, span. */
public final class EdgeHurtTest {
    private static final int LAST_SEED = 2147483646;
    private static final Edge.Scene LEAST = Edge.scene(Edge.LEAST);
    private static final Edge.Scene SMALL = Edge.scene(Edge.SMALL, x -> x.put(0, 0, 60, false),
        x -> x.put(0, 1, 30, false), x -> x.put(3, 2, 11, false));

    public static void main(String[] args) {
        noneSuch();
        riskAtTires();
        riskOfAll();
        whatsOfSound();
        soundOfNone();
        soundOfSix();
        soundAtLeast();
        lowestTerms();
        seedsOfSeason();
        whatsOfSeason();
        drawsBySeeds();
        drawAgainstRisk();
        drawForEachOuting();
        outDays();
        hurtAgain();
        bitsOfThrowers();
        riskOfTheLast();
        nobodyIsHurt();
        seedsOfSpan();
        whatsOfSpan();
        spanOfHundred();
        Check.end();
    }

    /** "NONE: 1", ahead of 2 and of 5. */
    private static void noneSuch() {
        for (int n : new int[] {-1, 0, 1, Edge.LOWEST, Edge.HIGHEST}) {
            Edge.refused("risk", Edge.noText(), 1, x -> x.risk(n));
            Edge.refused("sound", Edge.noText(), 1, x -> x.sound(n, 0));
            Edge.refused("season", Edge.noText(), 1, x -> x.season(n, 0));
            Edge.refused("span", Edge.noText(), 1, x -> x.span(n, 1, 0));
            Edge.refused("span", Edge.noText(), 1, x -> x.span(1, n, 0));
        }
        for (int wrong : new int[] {-1, 3, 8, Edge.LOWEST, Edge.HIGHEST}) {
            Edge.refused("risk", SMALL, 1, x -> x.risk(wrong));
            Edge.refused("sound", SMALL, 1, x -> x.sound(wrong, 0));
            Edge.refused("sound", SMALL, 1, x -> x.sound(wrong, 1));
        }
        Edge.asked("the last one", SMALL, 9, x -> x.risk(2));
        Edge.asked("the last one", SMALL, 991, x -> x.sound(2, 0));
        Edge.refused("one above", Edge.full(), 1, x -> x.risk(8));
        Edge.refused("one above", LEAST, 1, x -> x.risk(1));
    }

    private static Edge.Scene throwing(int tires, int frail, int... counts) {
        StringBuilder text = new StringBuilder("arm a left 2 120 ");
        text.append(tires).append(' ').append(frail);
        for (int g = 0; g < counts.length; g++) {
            text.append(";game ").append(g).append(" 0 120");
        }
        return Edge.scene(text.toString(), x -> {
            for (int g = 0; g < counts.length; g++) {
                x.put(g, 0, counts[g], false);
            }
            return 0;
        });
    }

    /** "FRAIL times what x is above TIRES, in thousandths". */
    private static void riskAtTires() {
        int[][] due = {{59, 0}, {60, 0}, {61, 7}, {62, 14}, {120, 420}};
        for (int[] row : due) {
            Edge.asked("risk of " + row[0], throwing(60, 7, row[0]), row[1], x -> x.risk(0));
            Edge.asked("risk of " + row[0], throwing(60, 7, row[0]), row[1],
                x -> x.outing(0, 0, 3));
        }
        Edge.asked("TIRES 0", throwing(0, 9, 120), 1080, x -> x.risk(0));
        Edge.asked("TIRES 0", throwing(0, 9, 1), 9, x -> x.risk(0));
        Edge.asked("FRAIL 0", throwing(0, 0, 120), 0, x -> x.risk(0));
        Edge.asked("never tired", throwing(120, 9, 120), 0, x -> x.risk(0));
    }

    /** "RISKS of all OUTINGS of a THROWER together". */
    private static void riskOfAll() {
        Edge.asked("no OUTING", LEAST, 0, x -> x.risk(0));
        int[] twenty = new int[20];
        Arrays.fill(twenty, 120);
        Edge.asked("twenty", throwing(0, 9, twenty), 20 * 1080, x -> x.risk(0));
        Edge.asked("some below TIRES", throwing(10, 9, 9, 10, 11, 12), 9 + 18, x -> x.risk(0));
    }

    /** "above (what 0), below (1). NONE: 1 (what, too); 5". */
    private static void whatsOfSound() {
        int[] seven = {1, 1, 1, 1, 1, 1, 1};
        for (int wrong : new int[] {-1, 2, Edge.LOWEST, Edge.HIGHEST}) {
            Edge.refused("sound", SMALL, 1, x -> x.sound(0, wrong));
            Edge.refused("what ahead of 5", throwing(0, 1, seven), 1, x -> x.sound(0, wrong));
            Edge.refused("who ahead of 5", throwing(0, 1, seven), 1, x -> x.sound(wrong, 0));
        }
        Edge.asked("above", SMALL, 24, x -> x.sound(0, 0));
        Edge.asked("below", SMALL, 25, x -> x.sound(0, 1));
    }

    private static void sound(Edge.Scene scene, long above, long below) {
        Edge.asked("above", scene, above, x -> x.sound(0, 0));
        Edge.asked("below", scene, below, x -> x.sound(0, 1));
    }

    private static void soundOfNone() {
        sound(LEAST, 1, 1);
        sound(throwing(60, 9, 60), 1, 1);
        sound(throwing(0, 0, 120, 120), 1, 1);
    }

    /** "5 (he has more than six)": six are taken, be they as unlike to cancel as can be. */
    private static void soundOfSix() {
        long below = 1;
        long above = 1;
        for (int count = 1; count <= 6; count++) {
            above *= 999;
            below *= 1000;
            int[] ones = new int[count];
            Arrays.fill(ones, 1);
            sound(throwing(0, 1, ones), above, below);
        }
        for (int count : new int[] {7, 8, 20}) {
            int[] ones = new int[count];
            Arrays.fill(ones, 1);
            Edge.refused("above", throwing(0, 1, ones), 5, x -> x.sound(0, 0));
            Edge.refused("below", throwing(0, 1, ones), 5, x -> x.sound(0, 1));
        }
        int[] seven = {1, 1, 1, 1, 1, 1, 1};
        Edge.Scene oneGone = () -> {
            ThrowArms arms = throwing(0, 1, seven).set();
            arms.take(3, 0);
            return arms;
        };
        sound(oneGone, above, below);
    }

    /** "1,000 less RISK (0 at least)". */
    private static void soundAtLeast() {
        sound(throwing(0, 9, 111), 1, 1000);
        sound(throwing(0, 9, 112), 0, 1);
        sound(throwing(0, 9, 120), 0, 1);
        sound(throwing(0, 9, 112, 1), 0, 1);
        sound(throwing(0, 9, 120, 120), 0, 1);
        sound(throwing(0, 9, 112, 112, 112, 112, 112, 112), 0, 1);
        sound(throwing(0, 9, 111, 111, 111, 111, 111, 111), 1, 1000000000000000000L);
    }

    /** "in lowest terms". */
    private static void lowestTerms() {
        sound(throwing(0, 5, 100), 1, 2);
        sound(throwing(0, 5, 100, 100, 100, 100, 100, 100), 1, 64);
        sound(throwing(0, 1, 1, 120), 10989, 12500);
        sound(throwing(0, 8, 120, 25), 4, 125);
        sound(throwing(0, 8, 25, 25, 25, 25, 25, 25), 4096, 15625);
    }

    /** "a seed (1 .. 2,147,483,646)"; "NONE: 1 (no TEXT, what); 2". */
    private static void seedsOfSeason() {
        for (int wrong : new int[] {0, -1, -LAST_SEED, Edge.LOWEST, Edge.HIGHEST}) {
            Edge.refused("season", SMALL, 2, x -> x.season(wrong, 0));
            Edge.refused("season", LEAST, 2, x -> x.season(wrong, 4));
            Edge.refused("what ahead of the seed", SMALL, 1, x -> x.season(wrong, 5));
            Edge.refused("what ahead of the seed", SMALL, 1, x -> x.season(wrong, -1));
        }
        Edge.asked("the least seed", SMALL, 2200 + 1410 + 168, x -> x.season(1, 3));
        Edge.asked("the greatest seed", SMALL, 2200 + 1410 + 168, x -> x.season(LAST_SEED, 3));
    }

    /** 0 .. 4. */
    private static void whatsOfSeason() {
        for (int wrong : new int[] {-1, 5, Edge.LOWEST, Edge.HIGHEST}) {
            Edge.refused("season", SMALL, 1, x -> x.season(1, wrong));
            Edge.refused("season", LEAST, 1, x -> x.season(LAST_SEED, wrong));
        }
        int[] due = {0, 0, 0, 0, -2};
        for (int what = 0; what <= 4; what++) {
            int which = what;
            Edge.asked("nobody throws", LEAST, due[what], x -> x.season(1, which));
        }
        // ann is hurt in GAME 0 by 119, and misses GAME 3 for 15 DAYS
        Edge.Scene hurt = Edge.scene(Edge.SMALL, x -> x.put(0, 0, 60, false),
            x -> x.put(3, 0, 20, false), x -> x.put(3, 1, 50, false));
        int[] then = {1, 1, 1, 2200 + 50 * 39, 0};
        for (int what = 0; what <= 4; what++) {
            int which = what;
            Edge.asked("season " + what, hurt, then[what], x -> x.season(119, which));
        }
    }

    private static int draw(int seed, int count) {
        BigInteger factor = BigInteger.valueOf(16807).pow(count);
        BigInteger drawn = BigInteger.valueOf(seed).multiply(factor);
        return drawn.mod(BigInteger.valueOf(2147483647)).mod(BigInteger.valueOf(1000)).intValue();
    }

    /** "16,807 times x modulo 2,147,483,647": by seeds round those where 31 or 32 bits are full. */
    private static void drawsBySeeds() {
        int[] seeds = {1, 2, 59, 119, 127772, 127773, 127774, 127775, 255546, 255547, 65535, 65536,
            1073741823, 1073741824, 2147483600, LAST_SEED - 1, LAST_SEED};
        for (int seed : seeds) {
            for (int frail = 1; frail <= 9; frail++) {
                ThrowArms arms = throwing(0, frail, 1, 1, 1).set();
                for (int x = 1; x <= 120; x++) {
                    arms.shift(0, 0, x);
                    int due = draw(seed, 1) < frail * x ? 0 : draw(seed, 2) < frail ? 1 : 2;
                    due = due == 2 && draw(seed, 3) >= frail ? -2 : due;
                    Check.equal("the first hurt by " + seed, arms.season(seed, 4), due);
                }
            }
        }
    }

    /** "a DRAW modulo 1,000 below its RISK: he is hurt". */
    private static void drawAgainstRisk() {
        int[] found = {0, 0};
        for (int seed = 1; seed <= 400; seed++) {
            int drawn = draw(seed, 1);
            if (drawn >= 1 && drawn < 120) {
                int by = seed;
                Edge.asked("as its RISK", throwing(0, 1, drawn), 0, x -> x.season(by, 0));
                Edge.asked("below it", throwing(0, 1, drawn + 1), 1, x -> x.season(by, 0));
                found[0]++;
            }
            if (drawn == 0 || drawn == 999) {
                int by = seed;
                Edge.asked("no RISK", throwing(120, 9, 120), 0, x -> x.season(by, 0));
                Edge.asked("1,080", throwing(0, 9, 120), 1, x -> x.season(by, 0));
                Edge.asked("999", throwing(0, 9, 111), drawn == 0 ? 1 : 0, x -> x.season(by, 0));
                found[1]++;
            }
        }
        Check.isTrue("some seeds are such", found[0] > 9 && found[1] > 0);
    }

    /** "A DRAW for each OUTING that isn't MISSED", without a RISK, too. */
    private static void drawForEachOuting() {
        // seed 1 draws 807, 249, 73: the third is below 81
        Edge.asked("two without a RISK ahead", Edge.scene(
            "arm a left 2 120 120 9;arm b left 2 120 0 9;game 0 0 200;game 1 0 200",
            x -> x.put(0, 0, 120, false), x -> x.put(0, 1, 9, false), x -> x.put(1, 1, 9, false)),
            1, x -> x.season(1, 4));
        // a is hurt by 807 and misses: 249 is the next draw, which isn't below 243
        String text = "arm a left 2 120 0 9;arm b left 2 120 0 9;game 0 0 200;game 1 0 200";
        Edge.asked("a MISSED one takes none", Edge.scene(text, x -> x.put(0, 0, 120, false),
            x -> x.put(1, 0, 120, false), x -> x.put(1, 1, 27, false)), 1, x -> x.season(1, 0));
        Edge.asked("a MISSED one takes none", Edge.scene(text, x -> x.put(0, 0, 120, false),
            x -> x.put(1, 0, 120, false), x -> x.put(1, 1, 28, false)), 2, x -> x.season(1, 0));
    }

    /** "from the DAY behind the one on which he was hurt on, out DAYS". */
    private static void outDays() {
        for (int out : new int[] {1, 2, 15, 57, 58, 59, 60}) {
            for (int day = 1; day <= 59; day++) {
                ThrowArms arms = Check.told("arm a left 2 120 0 9;game 0 0 120;game " + day
                    + " 0 120;out " + out);
                arms.put(0, 0, 120, false);
                arms.put(1, 0, 120, false);
                boolean misses = day <= out;
                Check.answered("MISSED", arms, arms.season(7, 2), misses ? 1 : 0);
                Check.answered("hurt", arms, arms.season(7, 0), misses ? 1 : 2);
                Check.answered("VALUES", arms, arms.season(7, 3), misses ? 120 : 240);
            }
        }
        ThrowArms arms = throwing(0, 9, 120, 120).set();
        Check.answered("15 without", arms, arms.about(5), 15);
        Check.answered("MISSED", arms, arms.season(7, 2), 1);
    }

    /** Hurt once more when he is back: from that DAY on anew. */
    private static void hurtAgain() {
        Edge.Scene scene = () -> {
            ThrowArms arms = throwing(0, 9, 120, 120, 120, 120, 120).set();
            arms.rule(2, 1);
            return arms;
        };
        Edge.asked("how often", scene, 3, x -> x.season(5, 0));
        Edge.asked("one bit", scene, 1, x -> x.season(5, 1));
        Edge.asked("MISSED", scene, 2, x -> x.season(5, 2));
        Edge.asked("VALUES", scene, 360, x -> x.season(5, 3));
        Edge.asked("the first GAME", scene, 0, x -> x.season(5, 4));
    }

    /** RISKS of the last THROWER in the last GAME are his alone. */
    private static void riskOfTheLast() {
        Edge.Scene scene = Edge.scene(Edge.fullText(), x -> x.put(0, 0, 61, false),
            x -> x.put(19, 7, 62, false), x -> x.put(0, 1, 63, false));
        int[][] due = {{0, 9, 991}, {1, 27, 973}, {2, 0, 1}, {6, 0, 1}, {7, 18, 491}};
        for (int[] row : due) {
            Edge.asked("risk", scene, row[1], x -> x.risk(row[0]));
            Edge.asked("sound", scene, row[2], x -> x.sound(row[0], 0));
        }
    }

    /** "1 who was (bits)": the first THROWER's is 1, the eighth's is 128. */
    private static void bitsOfThrowers() {
        Edge.Scene all = Edge.scene(Edge.fullText(), x -> {
            for (int t = 0; t < 8; t++) {
                x.become(t, 2, 0);
                x.put(t, t, 112, false);
            }
            return 0;
        });
        Edge.asked("all eight", all, 255, x -> x.season(1, 1));
        Edge.asked("all eight", all, 8, x -> x.season(1, 0));
        for (int t = 0; t < 8; t++) {
            int who = t;
            Edge.Scene one = Edge.scene(Edge.fullText(), x -> x.become(who, 2, 0),
                x -> x.put(19, who, 112, false));
            Edge.asked("one alone", one, 1 << t, x -> x.season(1, 1));
        }
    }

    /** "4 the first GAME in which somebody is hurt (-2: none)". */
    private static void nobodyIsHurt() {
        Edge.asked("none", throwing(120, 9, 120, 120), -2, x -> x.season(1, 4));
        Edge.asked("none", throwing(0, 0, 120, 120), -2, x -> x.season(LAST_SEED, 4));
        Edge.asked("no OUTING", Edge.scene(Edge.fullText()), -2, x -> x.season(1, 4));
        Edge.asked("the last GAME", Edge.scene("arm a left 2 120 0 9;game 0 0 9;game 59 0 200",
            x -> x.put(1, 0, 120, false)), 1, x -> x.season(1, 4));
    }

    /** "n seeds (1 .. 100), seed and on (none above 2,147,483,646)"; "2 (seeds, n)". */
    private static void seedsOfSpan() {
        for (int wrong : new int[] {0, -1, 101, Edge.LOWEST, Edge.HIGHEST}) {
            Edge.refused("n", SMALL, 2, x -> x.span(1, wrong, 0));
            Edge.refused("what ahead of n", SMALL, 1, x -> x.span(1, wrong, 3));
        }
        for (int wrong : new int[] {0, -1, Edge.LOWEST, Edge.HIGHEST}) {
            Edge.refused("seed", SMALL, 2, x -> x.span(wrong, 1, 0));
            Edge.refused("seed", SMALL, 2, x -> x.span(wrong, 100, 0));
            Edge.refused("what ahead of the seed", SMALL, 1, x -> x.span(wrong, 1, -1));
        }
        for (int n : new int[] {1, 2, 50, 99, 100}) {
            Edge.asked("the first seeds", LEAST, n, x -> x.span(1, n, 0));
            Edge.asked("up to the last", LEAST, n, x -> x.span(LAST_SEED - n + 1, n, 0));
            Edge.refused("one above", LEAST, 2, x -> x.span(LAST_SEED - n + 2, n, 0));
        }
        Edge.refused("both are wrong", LEAST, 2, x -> x.span(0, 0, 0));
        Edge.refused("all are wrong", LEAST, 1, x -> x.span(0, 0, 3));
    }

    /** 0 .. 2. */
    private static void whatsOfSpan() {
        for (int wrong : new int[] {-1, 3, Edge.LOWEST, Edge.HIGHEST}) {
            Edge.refused("span", SMALL, 1, x -> x.span(1, 1, wrong));
            Edge.refused("span", LEAST, 1, x -> x.span(LAST_SEED, 2, wrong));
        }
        Edge.asked("least of nothing", LEAST, 0, x -> x.span(1, 100, 1));
        Edge.asked("greatest of nothing", LEAST, 0, x -> x.span(1, 100, 2));
    }

    /** A hundred SEASONS, of two OUTINGS of which the second may be MISSED. */
    private static void spanOfHundred() {
        Edge.Scene scene = throwing(0, 9, 55, 1);
        for (int first : new int[] {1, 2, 1000000, LAST_SEED - 99}) {
            int sound = 0;
            int least = 56;
            int greatest = 0;
            for (int seed = first; seed - first < 100; seed++) {
                boolean hurt = draw(seed, 1) < 495;
                boolean hurtThen = !hurt && draw(seed, 2) < 9;
                int values = hurt ? 55 : 56;
                sound += hurt || hurtThen ? 0 : 1;
                least = Math.min(least, values);
                greatest = Math.max(greatest, values);
            }
            int[] due = {sound, least, greatest};
            for (int what = 0; what <= 2; what++) {
                int which = what;
                Edge.asked("span", scene, due[what], x -> x.span(first, 100, which));
            }
            Check.isTrue("both happen", sound > 0 && sound < 100 && least < greatest);
        }
        for (int seed = 1; seed <= 20; seed++) {
            int by = seed;
            int hurt = draw(seed, 1) < 495 ? 1 : 0;
            Edge.asked("a span of one", scene, 56 - hurt, x -> x.span(by, 1, 1));
            Edge.asked("a span of one", scene, 56 - hurt, x -> x.span(by, 1, 2));
        }
    }
}
