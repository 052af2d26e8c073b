/** The bounds of promises 22 to 29: breaches, breach, work, busiest, idle, gap, hands, bare. */
public final class EdgeSoTest {
    private static final Edge.Scene LEAST = Edge.scene(Edge.LEAST);
    private static final Edge.Scene SMALL = Edge.scene(Edge.SMALL, x -> x.put(0, 0, 60, false),
        x -> x.put(0, 1, 30, false), x -> x.put(3, 2, 11, false));

    public static void main(String[] args) {
        withoutText();
        noSuchThrower();
        breachesFromNoneToAll();
        placesOfBreach();
        breachesAtTheBound();
        daysOfWork();
        sevenDaysOfWork();
        whatsOfBusiest();
        firstDayOfBusiest();
        idleDays();
        idleOfTwentyGames();
        ofAllThere();
        gapOfFewerThanTwo();
        fewestDays();
        handsOfAGame();
        placesOfBare();
        Check.end();
    }

    /** "NONE: 1 (no TEXT ..)", ahead of a number. */
    private static void withoutText() {
        Edge.refused("breaches", Edge.noText(), 1, x -> x.breaches());
        for (int n : new int[] {-1, 0, 60, Edge.LOWEST, Edge.HIGHEST}) {
            Edge.refused("breach", Edge.noText(), 1, x -> x.breach(n));
            Edge.refused("work", Edge.noText(), 1, x -> x.work(0, n));
            Edge.refused("busiest", Edge.noText(), 1, x -> x.busiest(n, 0));
            Edge.refused("idle", Edge.noText(), 1, x -> x.idle(n));
            Edge.refused("gap", Edge.noText(), 1, x -> x.gap(n));
            Edge.refused("hands", Edge.noText(), 1, x -> x.hands(n, true));
            Edge.refused("bare", Edge.noText(), 1, x -> x.bare(n));
        }
    }

    private static void noSuchThrower() {
        for (int wrong : new int[] {-1, 3, 8, Edge.LOWEST, Edge.HIGHEST}) {
            Edge.refused("work", SMALL, 1, x -> x.work(wrong, 0));
            Edge.refused("work, ahead of 2", SMALL, 1, x -> x.work(wrong, 60));
            Edge.refused("work, ahead of 2", SMALL, 1, x -> x.work(wrong, -1));
            Edge.refused("busiest", SMALL, 1, x -> x.busiest(wrong, 0));
            Edge.refused("idle", SMALL, 1, x -> x.idle(wrong));
            Edge.refused("gap", SMALL, 1, x -> x.gap(wrong));
        }
        Edge.refused("one above", Edge.full(), 1, x -> x.idle(8));
        Edge.refused("one above", LEAST, 1, x -> x.gap(1));
        Edge.asked("the last one", SMALL, 11, x -> x.work(2, 10));
        Edge.asked("the last one", SMALL, 11, x -> x.busiest(2, 0));
        Edge.asked("the last one", SMALL, 49, x -> x.idle(2));
        Edge.asked("the last one", SMALL, -2, x -> x.gap(2));
    }

    /** Sixty OUTINGS of two throws, and then nobody has STAMINA for more than one. */
    private static Edge.Scene allBreached() {
        return Edge.scene(Edge.fullText(), x -> {
            for (int i = 0; i < 60; i++) {
                x.put(i / 3, i % 8, 2, false);
            }
            for (int t = 0; t < 8; t++) {
                x.become(t, 1, 1);
            }
            return 0;
        });
    }

    /** "How many OUTINGS aren't ALLOWED": none of none, none of all, all of all. */
    private static void breachesFromNoneToAll() {
        Edge.asked("no OUTING", LEAST, 0, x -> x.breaches());
        Edge.asked("none of three", SMALL, 0, x -> x.breaches());
        Edge.asked("none of sixty", Edge.full(), 0, x -> x.breaches());
        Edge.asked("sixty", allBreached(), 60, x -> x.breaches());
    }

    /** "(0: the first) ..: 3 times the GAME and its place there; -2 ..; NONE: 1 (.. k below 0)". */
    private static void placesOfBreach() {
        for (int k : new int[] {0, 1, 2, 58, 59}) {
            Edge.asked("breach " + k, allBreached(), k, x -> x.breach(k));
        }
        for (int k : new int[] {60, 61, Edge.HIGHEST}) {
            Edge.asked("not so many", allBreached(), -2, x -> x.breach(k));
        }
        for (int k : new int[] {0, 1, Edge.HIGHEST}) {
            Edge.asked("none", SMALL, -2, x -> x.breach(k));
            Edge.asked("none", LEAST, -2, x -> x.breach(k));
        }
        for (int k : new int[] {-1, -2, Edge.LOWEST}) {
            Edge.refused("below 0", allBreached(), 1, x -> x.breach(k));
            Edge.refused("below 0", LEAST, 1, x -> x.breach(k));
        }
        // GAME 0 has cy and ann: ann's is too near to that in GAME 2
        Edge.Scene some = Edge.scene(Edge.SMALL, x -> x.put(0, 2, 10, false),
            x -> x.put(0, 0, 50, false), x -> x.put(2, 1, 1, false), x -> x.put(2, 0, 1, true));
        int[] due = {1, 7, -2};
        for (int k = 0; k < due.length; k++) {
            int place = k;
            Edge.asked("breach " + k, some, due[k], x -> x.breach(place));
        }
    }

    /** STAMINA, rests and WEEK may change: at the bound it is ALLOWED, beyond it isn't. */
    private static void breachesAtTheBound() {
        Edge.asked("STAMINA", Edge.scene(Edge.SMALL, x -> x.put(0, 0, 50, false),
            x -> x.become(0, 1, 50)), 0, x -> x.breaches());
        Edge.asked("below it", Edge.scene(Edge.SMALL, x -> x.put(0, 0, 50, false),
            x -> x.become(0, 1, 49)), 1, x -> x.breaches());
        Edge.asked("WEEK", Edge.scene(Edge.SMALL, x -> x.put(0, 0, 50, false),
            x -> x.rule(0, 50)), 0, x -> x.breaches());
        Edge.asked("below it", Edge.scene(Edge.SMALL, x -> x.put(0, 0, 50, false),
            x -> x.rule(0, 49)), 1, x -> x.breaches());
        Edge.asked("no bound", Edge.scene(Edge.SMALL, x -> x.put(0, 0, 50, false),
            x -> x.rule(0, 0)), 0, x -> x.breaches());
        Edge.asked("two DAYS", Edge.scene(Edge.SMALL, x -> x.put(0, 1, 20, false),
            x -> x.put(1, 1, 1, false)), 0, x -> x.breaches());
        Edge.asked("not more than two", Edge.scene(Edge.SMALL, x -> x.put(0, 1, 20, false),
            x -> x.put(1, 1, 1, false), x -> x.rests(0, 2)), 2, x -> x.breaches());
        // the week of one isn't that of the other: the third is seven DAYS behind the first
        Edge.Scene weeks = Edge.scene("arm a left 9 60 9 0;game 0 0 60;game 6 0 60;game 7 0 60;"
            + "week 60", x -> x.put(0, 0, 30, false), x -> x.put(1, 0, 30, false),
            x -> x.put(2, 0, 31, true));
        Edge.asked("two of three", weeks, 2, x -> x.breaches());
        Edge.asked("the second", weeks, 3, x -> x.breach(0));
        Edge.asked("the third", weeks, 6, x -> x.breach(1));
    }

    /** "DAY d (0 .. 59)"; "NONE: 1; 2". */
    private static void daysOfWork() {
        Edge.asked("the first DAY", SMALL, 60, x -> x.work(0, 0));
        Edge.asked("the last DAY", SMALL, 0, x -> x.work(0, 59));
        Edge.asked("on the last DAY", Edge.full(), 1, x -> x.work(59 % 8, 59));
        for (int wrong : new int[] {-1, 60, Edge.LOWEST, Edge.HIGHEST}) {
            Edge.refused("work", SMALL, 2, x -> x.work(0, wrong));
            Edge.refused("work", LEAST, 2, x -> x.work(0, wrong));
        }
    }

    private static Edge.Scene days() {
        return Edge.scene("arm a left 9 99 9 0;arm b left 9 99 9 0;game 0 0 99;game 6 0 99;"
            + "game 13 0 99;game 53 0 99;game 59 0 99", x -> x.put(0, 0, 1, false),
            x -> x.put(1, 0, 2, false), x -> x.put(2, 0, 4, false), x -> x.put(3, 0, 8, false),
            x -> x.put(4, 0, 16, false), x -> x.put(4, 1, 32, false));
    }

    /** "in the 7 DAYS of which DAY d is the last". */
    private static void sevenDaysOfWork() {
        int[][] due = {{0, 1}, {5, 1}, {6, 3}, {7, 2}, {12, 2}, {13, 4}, {19, 4}, {20, 0}, {52, 0},
            {53, 8}, {58, 8}, {59, 24}};
        for (int[] row : due) {
            Edge.asked("work " + row[0], days(), row[1], x -> x.work(0, row[0]));
        }
        Edge.asked("the other one", days(), 32, x -> x.work(1, 59));
        Edge.asked("the other one", days(), 0, x -> x.work(1, 58));
    }

    /** "it (what 0), the first DAY of it (1). NONE: 1 (what, too)". */
    private static void whatsOfBusiest() {
        for (int wrong : new int[] {-1, 2, Edge.LOWEST, Edge.HIGHEST}) {
            Edge.refused("busiest", SMALL, 1, x -> x.busiest(0, wrong));
            Edge.refused("busiest", LEAST, 1, x -> x.busiest(0, wrong));
        }
        Edge.asked("none", LEAST, 0, x -> x.busiest(0, 0));
        Edge.asked("the first DAY of none", LEAST, 0, x -> x.busiest(0, 1));
        Edge.asked("on DAY 59", days(), 24, x -> x.busiest(0, 0));
        Edge.asked("on DAY 59", days(), 59, x -> x.busiest(0, 1));
        Edge.asked("on DAY 59 alone", days(), 32, x -> x.busiest(1, 0));
        Edge.asked("on DAY 59 alone", days(), 59, x -> x.busiest(1, 1));
        Edge.asked("on DAY 0", Edge.scene(Edge.LEAST, x -> x.put(0, 0, 1, false)), 1,
            x -> x.busiest(0, 0));
        Edge.asked("on DAY 0", Edge.scene(Edge.LEAST, x -> x.put(0, 0, 1, false)), 0,
            x -> x.busiest(0, 1));
    }

    /** Of two as great the first. */
    private static void firstDayOfBusiest() {
        String text = "arm a left 9 99 9 0;game 3 0 99;game 20 0 99;game 21 0 99";
        Edge.Scene alike = Edge.scene(text, x -> x.put(0, 0, 7, false), x -> x.put(1, 0, 3, false),
            x -> x.put(2, 0, 4, false));
        Edge.asked("it", alike, 7, x -> x.busiest(0, 0));
        Edge.asked("the first DAY of it", alike, 3, x -> x.busiest(0, 1));
        Edge.Scene later = Edge.scene(text, x -> x.put(0, 0, 7, false), x -> x.put(1, 0, 4, false),
            x -> x.put(2, 0, 4, false));
        Edge.asked("it", later, 8, x -> x.busiest(0, 0));
        Edge.asked("the first DAY of it", later, 21, x -> x.busiest(0, 1));
    }

    private static Edge.Scene throwsOn(int... days) {
        StringBuilder text = new StringBuilder("arm a left 9 99 9 0;arm b left 9 99 9 0");
        for (int day : days) {
            text.append(";game ").append(day).append(" 0 99");
        }
        return Edge.scene(text.toString(), x -> {
            for (int g = 0; g < days.length; g++) {
                x.put(g, 0, 5, false);
            }
            return 0;
        });
    }

    /** "The most DAYS one behind another, of 0 .. 59, in which a THROWER doesn't throw". */
    private static void idleDays() {
        Edge.asked("all", LEAST, 60, x -> x.idle(0));
        Edge.asked("all, though others throw", throwsOn(0, 30), 60, x -> x.idle(1));
        int[][] due = {{0, 59}, {59, 59}, {1, 58}, {58, 58}, {29, 30}, {30, 30}};
        for (int[] row : due) {
            Edge.asked("but " + row[0], throwsOn(row[0]), row[1], x -> x.idle(0));
        }
        Edge.asked("both ends", throwsOn(0, 59), 58, x -> x.idle(0));
        Edge.asked("ahead is most", throwsOn(25, 40, 59), 25, x -> x.idle(0));
        Edge.asked("between is most", throwsOn(18, 39), 20, x -> x.idle(0));
        Edge.asked("behind is most", throwsOn(19, 38), 21, x -> x.idle(0));
    }

    /** As few as there can be: twenty GAMES leave forty DAYS, in 21 parts. */
    private static void idleOfTwentyGames() {
        int[] days = new int[20];
        for (int g = 0; g < 20; g++) {
            days[g] = 2 + 3 * g - (g == 19 ? 1 : 0);
        }
        Edge.asked("twenty", throwsOn(days), 2, x -> x.idle(0));
        Edge.asked("twenty", throwsOn(days), 2, x -> x.gap(0));
    }

    /** The first and the last THROWER of eight, in the first and the last GAME of twenty. */
    private static void ofAllThere() {
        Edge.Scene ends = Edge.scene(Edge.fullText(), x -> x.put(0, 0, 1, false),
            x -> x.put(0, 7, 2, false), x -> x.put(18, 7, 4, false), x -> x.put(19, 6, 8, false));
        int[][] due = {{0, 59, -2, 1, 0}, {1, 60, -2, 0, 0}, {6, 59, -2, 8, 59}, {7, 53, 54, 4, 54}};
        for (int[] row : due) {
            Edge.asked("idle", ends, row[1], x -> x.idle(row[0]));
            Edge.asked("gap", ends, row[2], x -> x.gap(row[0]));
            Edge.asked("busiest", ends, row[3], x -> x.busiest(row[0], 0));
            Edge.asked("its DAY", ends, row[4], x -> x.busiest(row[0], 1));
            Edge.asked("risk", ends, 0, x -> x.risk(row[0]));
            Edge.asked("sound", ends, 1, x -> x.sound(row[0], 0));
        }
    }

    /** "-2: he has fewer than two". */
    private static void gapOfFewerThanTwo() {
        Edge.asked("none", LEAST, -2, x -> x.gap(0));
        Edge.asked("one", throwsOn(0), -2, x -> x.gap(0));
        Edge.asked("one", throwsOn(59), -2, x -> x.gap(0));
        Edge.asked("none", throwsOn(1, 2), -2, x -> x.gap(1));
        Edge.asked("one is gone", Edge.scene(Edge.SMALL, x -> x.put(0, 0, 1, false),
            x -> x.put(3, 0, 1, false), x -> x.take(0, 0)), -2, x -> x.gap(0));
    }

    /** "The fewest DAYS from one OUTING of a THROWER to his next one". */
    private static void fewestDays() {
        Edge.asked("one", throwsOn(0, 1), 1, x -> x.gap(0));
        Edge.asked("fifty-nine", throwsOn(0, 59), 59, x -> x.gap(0));
        Edge.asked("the first of them", throwsOn(0, 3, 9, 20), 3, x -> x.gap(0));
        Edge.asked("the last of them", throwsOn(0, 13, 29, 40), 11, x -> x.gap(0));
        Edge.asked("not of others", Edge.scene(Edge.SMALL, x -> x.put(0, 1, 1, false),
            x -> x.put(1, 0, 1, false), x -> x.put(2, 1, 1, false)), 3, x -> x.gap(1));
    }

    /** "Throws in a GAME of THROWERS of a HAND together. NONE: 1". */
    private static void handsOfAGame() {
        for (int wrong : new int[] {-1, 4, 20, Edge.LOWEST, Edge.HIGHEST}) {
            Edge.refused("hands", SMALL, 1, x -> x.hands(wrong, true));
            Edge.refused("hands", SMALL, 1, x -> x.hands(wrong, false));
        }
        Edge.refused("hands", LEAST, 1, x -> x.hands(1, false));
        Edge.refused("hands", Edge.full(), 1, x -> x.hands(20, false));
        Edge.asked("left", SMALL, 60, x -> x.hands(0, false));
        Edge.asked("right", SMALL, 30, x -> x.hands(0, true));
        Edge.asked("none is left", SMALL, 0, x -> x.hands(3, false));
        Edge.asked("the last GAME", SMALL, 11, x -> x.hands(3, true));
        Edge.asked("no OUTING", SMALL, 0, x -> x.hands(1, true));
        // THROWERS 1, 2, 3 are in it: two of them are right
        Edge.asked("three OUTINGS", Edge.full(), 2, x -> x.hands(19, true));
        Edge.asked("three OUTINGS", Edge.full(), 1, x -> x.hands(19, false));
    }

    /** "(0: the first); -2 there are not so many. NONE: 1 (no TEXT; k below 0)". */
    private static void placesOfBare() {
        int[] due = {1, 2, -2, -2};
        for (int k = 0; k < due.length; k++) {
            int place = k;
            Edge.asked("bare " + k, SMALL, due[k], x -> x.bare(place));
        }
        Edge.asked("the only one", LEAST, 0, x -> x.bare(0));
        Edge.asked("no second one", LEAST, -2, x -> x.bare(1));
        Edge.asked("no more", LEAST, -2, x -> x.bare(Edge.HIGHEST));
        Edge.asked("none", Edge.full(), -2, x -> x.bare(0));
        Edge.asked("the last of all", Edge.scene(Edge.fullText()), 19, x -> x.bare(19));
        Edge.asked("no more", Edge.scene(Edge.fullText()), -2, x -> x.bare(20));
        for (int k : new int[] {-1, -2, Edge.LOWEST}) {
            Edge.refused("below 0", SMALL, 1, x -> x.bare(k));
            Edge.refused("below 0", LEAST, 1, x -> x.bare(k));
        }
    }
}
