/** Promises 22 to 29 (what isn't so) and 30 to 33 (who is hurt). */
public final class SoTest {
    private static final String TEXT = "arm ann left 50 60 40 2;arm bob right 41 100 80 0;"
        + "arm cy right 18 20 10 9;game 0 3 90;game 2 9 50;game 3 0 20;game 10 5 120;"
        + "rest 20 1;rest 50 3;week 100;edge 2";

    public static void main(String[] args) {
        refusals();
        breachesByRest();
        breachesByStaminaAndWeek();
        works();
        idlesAndGaps();
        handsOfGames();
        bareGames();
        risks();
        sounds();
        seasons();
        drawAsRisk();
        comingBack();
        spans();
        Check.end();
    }

    private static void refusals() {
        ThrowArms arms = Check.told(TEXT);
        for (int wrong : new int[] {-1, 3, Integer.MIN_VALUE, Integer.MAX_VALUE}) {
            Check.refused("work", arms, arms.work(wrong, -1), 1);
            Check.refused("busiest", arms, arms.busiest(wrong, 0), 1);
            Check.refused("busiest", arms, arms.busiest(0, wrong), 1);
            Check.refused("idle", arms, arms.idle(wrong), 1);
            Check.refused("gap", arms, arms.gap(wrong), 1);
            Check.refused("risk", arms, arms.risk(wrong), 1);
            Check.refused("sound", arms, arms.sound(wrong, 0), 1);
            Check.refused("sound", arms, arms.sound(0, wrong), 1);
            Check.refused("span", arms, arms.span(0, 0, wrong), 1);
        }
        Check.refused("busiest 2", arms, arms.busiest(0, 2), 1);
        Check.refused("sound 2", arms, arms.sound(0, 2), 1);
        for (int wrong : new int[] {-1, 5, Integer.MIN_VALUE, Integer.MAX_VALUE}) {
            Check.refused("hands", arms, arms.hands(wrong, true), 1);
            Check.refused("season", arms, arms.season(0, wrong), 1);
        }
        Check.refused("hands", arms, arms.hands(4, true), 1);
        Check.refused("breach", arms, arms.breach(-1), 1);
        Check.refused("bare", arms, arms.bare(-1), 1);
        Check.refused("breach", arms, arms.breach(Integer.MIN_VALUE), 1);
        Check.refused("bare", arms, arms.bare(Integer.MIN_VALUE), 1);
        for (int wrong : new int[] {-1, 60, Integer.MIN_VALUE, Integer.MAX_VALUE}) {
            Check.refused("work", arms, arms.work(0, wrong), 2);
        }
        for (int wrong : new int[] {-1, 0, Integer.MIN_VALUE, Integer.MAX_VALUE}) {
            Check.refused("season", arms, arms.season(wrong, 0), 2);
            Check.refused("span", arms, arms.span(wrong, 1, 0), 2);
            Check.refused("span", arms, arms.span(1, wrong, 0), 2);
        }
        Check.refused("span of 101", arms, arms.span(1, 101, 0), 2);
        Check.refused("span above", arms, arms.span(2147483646, 2, 0), 2);
        Check.refused("span above", arms, arms.span(2147483548, 100, 0), 2);
    }

    private static void breachesByRest() {
        ThrowArms arms = Check.told(TEXT);
        Check.answered("none", arms, arms.breaches(), 0);
        Check.answered("none", arms, arms.breach(0), -2);
        arms.put(0, 2, 10, false);
        arms.put(0, 0, 50, false);
        arms.put(2, 0, 10, true);
        arms.put(2, 2, 5, false);
        arms.put(3, 0, 60, false);
        Check.answered("both", arms, arms.breaches(), 2);
        Check.answered("the earlier one", arms, arms.breach(0), 1);
        Check.answered("the later one", arms, arms.breach(1), 6);
        Check.answered("no third", arms, arms.breach(2), -2);
        Check.answered("nor", arms, arms.breach(Integer.MAX_VALUE), -2);
        arms.rests(1, 2);
        Check.answered("three are more than two", arms, arms.breaches(), 0);
    }

    private static void breachesByStaminaAndWeek() {
        ThrowArms arms = Check.told(TEXT);
        arms.put(0, 0, 60, false);
        arms.put(1, 1, 50, false);
        arms.put(2, 1, 20, true);
        arms.put(3, 1, 100, false);
        Check.answered("rest", arms, arms.breaches(), 2);
        arms.rests(1, 0);
        arms.rests(0, 0);
        Check.answered("nobody", arms, arms.breaches(), 0);
        arms.become(0, 1, 59);
        Check.answered("stamina", arms, arms.breaches(), 1);
        Check.answered("stamina", arms, arms.breach(0), 0);
        arms.rule(0, 69);
        Check.answered("and the week", arms, arms.breaches(), 4);
        int[] due = {0, 3, 6, 9, -2};
        for (int k = 0; k < due.length; k++) {
            Check.answered("breach " + k, arms, arms.breach(k), due[k]);
        }
        arms.rule(0, 70);
        Check.answered("not these", arms, arms.breaches(), 2);
    }

    private static void works() {
        ThrowArms arms = Check.told("arm a left 9 99 9 0;arm b left 9 99 9 0;game 0 0 99;"
            + "game 6 0 99;game 7 0 99;game 53 0 99;game 59 0 99");
        Check.answered("none", arms, arms.busiest(0, 0), 0);
        Check.answered("none", arms, arms.busiest(0, 1), 0);
        int[] thrown = {10, 20, 5, 9, 21};
        for (int g = 0; g < thrown.length; g++) {
            arms.put(g, 0, thrown[g], false);
        }
        arms.put(1, 1, 70, false);
        int[][] due = {{0, 10}, {5, 10}, {6, 30}, {7, 25}, {12, 25}, {13, 5}, {14, 0}, {53, 9},
            {58, 9}, {59, 30}};
        for (int[] row : due) {
            Check.answered("work " + row[0], arms, arms.work(0, row[0]), row[1]);
        }
        Check.answered("busiest", arms, arms.busiest(0, 0), 30);
        Check.answered("the first day of it", arms, arms.busiest(0, 1), 6);
        arms.shift(4, 0, 22);
        Check.answered("busiest then", arms, arms.busiest(0, 0), 31);
        Check.answered("its day", arms, arms.busiest(0, 1), 59);
        Check.answered("the other one", arms, arms.busiest(1, 1), 6);
    }

    private static void idlesAndGaps() {
        ThrowArms arms = Check.told("arm a left 9 99 9 0;arm b left 9 99 9 0;game 0 0 99;"
            + "game 20 0 99;game 21 0 99;game 50 0 99;game 59 0 99");
        Check.answered("all days", arms, arms.idle(0), 60);
        Check.answered("none", arms, arms.gap(0), -2);
        arms.put(1, 0, 5, false);
        Check.answered("behind", arms, arms.idle(0), 39);
        Check.answered("one", arms, arms.gap(0), -2);
        arms.put(3, 0, 5, false);
        Check.answered("between", arms, arms.idle(0), 29);
        Check.answered("two", arms, arms.gap(0), 30);
        arms.put(4, 0, 5, false);
        Check.answered("still", arms, arms.idle(0), 29);
        Check.answered("three", arms, arms.gap(0), 9);
        arms.put(0, 0, 5, false);
        arms.put(2, 0, 5, false);
        Check.answered("from 22 to 49", arms, arms.idle(0), 28);
        Check.answered("one day", arms, arms.gap(0), 1);
        arms.put(0, 1, 5, false);
        Check.answered("from 1 on", arms, arms.idle(1), 59);
        arms.put(1, 1, 5, false);
        Check.answered("from the first game on", arms, arms.gap(1), 20);
        arms.take(1, 1);
        arms.take(0, 1);
        arms.put(4, 1, 5, false);
        Check.answered("up to 58", arms, arms.idle(1), 59);
    }

    private static void handsOfGames() {
        ThrowArms arms = Check.told(TEXT);
        Check.answered("none", arms, arms.hands(0, true), 0);
        arms.put(0, 0, 11, false);
        arms.put(0, 1, 22, false);
        arms.put(0, 2, 13, false);
        Check.answered("right", arms, arms.hands(0, true), 35);
        Check.answered("left", arms, arms.hands(0, false), 11);
        Check.answered("another game", arms, arms.hands(1, false), 0);
    }

    private static void bareGames() {
        ThrowArms arms = Check.told(TEXT);
        arms.put(1, 0, 11, false);
        int[] due = {0, 2, 3, -2};
        for (int k = 0; k < due.length; k++) {
            Check.answered("bare " + k, arms, arms.bare(k), due[k]);
        }
        Check.answered("not so many", arms, arms.bare(Integer.MAX_VALUE), -2);
    }

    private static void risks() {
        ThrowArms arms = Check.told(TEXT);
        Check.answered("none", arms, arms.risk(2), 0);
        arms.put(0, 2, 10, false);
        Check.answered("up to tires", arms, arms.risk(2), 0);
        arms.put(1, 2, 11, false);
        arms.put(3, 2, 20, false);
        Check.answered("above", arms, arms.risk(2), 9 + 90);
        arms.put(0, 1, 80, false);
        Check.answered("not frail", arms, arms.risk(1), 0);
        arms.shift(0, 0, 10);
        arms.become(2, 2, 9);
        Check.answered("above in all", arms, arms.risk(2), 9 + 18 + 99);
    }

    private static void sounds() {
        ThrowArms arms = Check.told("arm a left 9 120 0 9;arm b left 9 99 1 7;game 0 0 200;"
            + "game 1 0 200;game 2 0 200;game 3 0 200;game 4 0 200;game 5 0 200;game 6 0 200");
        sound(arms, 0, 1, 1);
        arms.put(0, 0, 2, false);
        sound(arms, 0, 491, 500);
        arms.shift(0, 0, 20);
        sound(arms, 0, 41, 50);
        arms.put(1, 0, 30, false);
        sound(arms, 0, 41L * 73, 5000);
        arms.put(2, 0, 112, false);
        Check.answered("risk", arms, arms.outing(2, 0, 3), 1008);
        sound(arms, 0, 0, 1);
        for (int g = 0; g < 6; g++) {
            arms.put(g, 1, 2, false);
        }
        sound(arms, 1, 993L * 993 * 993 * 993 * 993 * 993, 1000000000000000000L);
        arms.put(6, 1, 1, false);
        Check.refused("seven", arms, arms.sound(1, 0), 5);
        Check.refused("seven", arms, arms.sound(1, 1), 5);
        Check.refused("what is ahead", arms, arms.sound(1, 2), 1);
        sound(arms, 0, 0, 1);
    }

    private static void sound(ThrowArms arms, int t, long above, long below) {
        Check.answered("sound above", arms, arms.sound(t, 0), above);
        Check.answered("sound below", arms, arms.sound(t, 1), below);
    }

    private static void season(ThrowArms arms, int seed, int... due) {
        for (int what = 0; what < due.length; what++) {
            Check.answered("season " + seed + " " + what, arms, arms.season(seed, what), due[what]);
        }
    }

    /** By seed 1 draws modulo 1,000 are 807, 249, 73, 658, 930, 272, 544, 878. */
    private static void seasons() {
        ThrowArms arms = Check.told("arm a left 9 120 0 9;arm b left 8 120 0 9;game 0 0 200;"
            + "game 5 0 200;game 6 0 200;game 7 0 200;out 1");
        season(arms, 1, 0, 0, 0, 0, -2);
        arms.put(0, 0, 10, false);
        arms.put(0, 1, 28, false);
        Check.answered("risk", arms, arms.outing(0, 1, 3), 252);
        // 807 isn't below 90, 249 is below 252
        season(arms, 1, 1, 2, 0, 9 * 5 + 8 * 14, 0);
        arms.shift(0, 1, 27);
        season(arms, 1, 0, 0, 0, 45 + 8 * 27 / 2, -2);
        arms.put(1, 1, 9, false);
        arms.put(2, 1, 120, false);
        arms.put(3, 1, 120, false);
        // 73 is below 81: he misses day 6, and throws on day 7, where 658 is below 1,080
        season(arms, 1, 2, 2, 1, 45 + 108 + 36 + 480, 1);
        arms.rule(2, 2);
        season(arms, 1, 1, 2, 2, 45 + 108 + 36, 1);
        // what is missed takes no draw: 658 comes to the other one on day 7
        arms.put(3, 0, 73, false);
        season(arms, 1, 1, 2, 2, 45 + 108 + 36 + 9 * 73 / 2, 1);
        arms.shift(3, 1, 74);
        season(arms, 1, 2, 3, 2, 45 + 108 + 36 + 9 * 37, 1);
        // its draws are what 2,147,483,647 is above these: 840, 398, 574, 989, 717
        season(arms, 2147483646, 1, 2, 1, 45 + 108 + 36 + 480 + 9 * 37, 2);
    }

    /** The third draw by seed 1 is 73 modulo 1,000: a risk of 73 is not above it. */
    private static void drawAsRisk() {
        ThrowArms arms = Check.told("arm a left 9 120 0 1;game 0 0 200;game 5 0 200;game 6 0 200");
        arms.put(0, 0, 1, false);
        arms.put(1, 0, 1, false);
        arms.put(2, 0, 73, false);
        season(arms, 1, 0, 0, 0, 4 + 4 + 9 * 73 / 2, -2);
        arms.shift(2, 0, 74);
        season(arms, 1, 1, 1, 0, 4 + 4 + 9 * 37, 2);
    }

    /** Hurt on day 0 for 15 days: day 15 is missed, day 16 isn't. */
    private static void comingBack() {
        ThrowArms arms = Check.told("arm a left 9 120 0 9;game 0 0 200;game 15 0 200;"
            + "game 16 0 200;game 31 0 200;game 32 0 200");
        for (int g = 0; g < 5; g++) {
            arms.put(g, 0, 112, false);
        }
        season(arms, 77, 3, 1, 2, 3 * 9 * 56, 0);
    }

    private static void spans() {
        ThrowArms arms = Check.told("arm a left 9 120 0 9;game 0 0 200;game 5 0 200;out 60");
        Check.answered("nobody throws", arms, arms.span(1, 100, 0), 100);
        Check.answered("nobody throws", arms, arms.span(1, 100, 1), 0);
        Check.answered("nobody throws", arms, arms.span(1, 100, 2), 0);
        arms.put(0, 0, 90, false);
        arms.put(1, 0, 1, false);
        // seeds 1 .. 5 draw 807 614 421 228 35 first: the risk is 810
        Check.answered("seed 1 is hurt", arms, arms.season(1, 0), 1);
        Check.answered("none", arms, arms.span(1, 5, 0), 0);
        arms.shift(0, 0, 46);
        // the risk is 414: seeds 4 and 5 are hurt and miss the other one
        Check.answered("three of five", arms, arms.span(1, 5, 0), 3);
        Check.answered("least", arms, arms.span(1, 5, 1), 9 * 23);
        Check.answered("greatest", arms, arms.span(1, 5, 2), 9 * 23 + 4);
        Check.answered("least of the first three", arms, arms.span(1, 3, 1), 9 * 23 + 4);
        Check.answered("greatest of the last two", arms, arms.span(4, 2, 2), 9 * 23);
        Check.answered("a span of one", arms, arms.span(4, 1, 0), 0);
        int last = arms.season(2147483646, 0) == 0 ? 1 : 0;
        Check.answered("the last seed", arms, arms.span(2147483646, 1, 0), last);
        Check.answered("no act", arms, arms.about(7), 3);
    }
}
