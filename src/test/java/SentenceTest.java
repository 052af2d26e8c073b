/**
 * Sentences of the document that only the drawn runs against the Model held: each method breaks if
 * the sentence that stands with it is read in another way that answers alike in all other tests.
 */
public final class SentenceTest {
    public static void main(String[] args) {
        laterThanTheOneAhead();
        handsAreWholeWords();
        wholesByTens();
        valuesAboveStamina();
        rankedByNeed();
        extraOfTwoHundred();
        ownRestByThrowsAsked();
        nobodyForMore();
        outingByOuting();
        soundOfMoreThanSix();
        betterLeavesTheOrder();
        fillByWhatIsLeft();
        fillAllGameByGame();
        undoIsNotRefused();
        mostByWeekAndRest();
        laidThoughWorthNothing();
        betterByGrowth();
        thirdOutingIsThrown();
        rulesLeaveThePlan();
        eighthThrower();
        twentiethGame();
        Check.end();
    }

    private static void faulty(String text, int number, int place) {
        ThrowArms arms = new ThrowArms();
        Check.equal(text, Check.tell(arms, text), ThrowArms.NONE);
        Check.equal("fault() of " + text, arms.fault(), number);
        Check.equal("where() of " + text, arms.where(), place);
    }

    /** "DAY .., later than that of the GAME told ahead", "FROM .., greater than that told ahead". */
    private static void laterThanTheOneAhead() {
        String games = Edge.LEAST + ";game 9 0 1;game ";
        faulty(games + "7 0 1", 2, games.length());
        faulty(games + "9 0 1", 2, games.length());
        Check.equal("a later one", Check.told(games + "10 0 1").about(1), 3);
        String rests = Edge.LEAST + ";rest 2 1;rest 9 1;rest ";
        faulty(rests + "7 1", 2, rests.length());
        faulty(rests + "9 1", 2, rests.length());
        Check.equal("a greater one", Check.told(rests + "10 1").about(6), 3);
    }

    /** "arm NAME left .., or arm NAME right": no part of these WORDS does. */
    private static void handsAreWholeWords() {
        for (String hand : new String[] {"left", "right"}) {
            for (int letters = 1; letters < hand.length(); letters++) {
                String behind = " 1 1 0 0;game 0 0 1";
                faulty("arm a " + hand.substring(0, letters) + behind, 1, 6);
                faulty("arm a " + hand.substring(letters) + behind, 1, 6);
            }
        }
    }

    /** "WHOLES of 1 to 3 digits": 0 may be the first of them. */
    private static void wholesByTens() {
        ThrowArms arms = Check.told("arm a right 010 020 016 09;game 08 09 011;game 010 00 020;"
            + "rest 010 07;week 017;edge 001;out 018");
        int[] bounds = {17, 1, 18};
        for (int what = 0; what < 3; what++) {
            Check.answered("about", arms, arms.about(3 + what), bounds[what]);
        }
        int[] traits = {10, 20, 16, 9};
        for (int what = 0; what < 4; what++) {
            Check.answered("arm", arms, arms.arm(0, 1 + what), traits[what]);
        }
        int[][] games = {{8, 9, 11}, {10, 0, 20}};
        for (int g = 0; g < 2; g++) {
            for (int what = 0; what < 3; what++) {
                Check.answered("game", arms, arms.game(g, what), games[g][what]);
            }
        }
        Check.answered("below FROM", arms, arms.rest(9), 0);
        Check.answered("FROM", arms, arms.rest(10), 7);
    }

    /** "(OUTINGS stay)": their VALUES are added up as ever, though x is above STAMINA. */
    private static void valuesAboveStamina() {
        Edge.Scene scene = Edge.scene(Edge.SMALL, x -> x.put(0, 0, 60, false),
            x -> x.put(0, 1, 20, false), x -> x.become(0, 1, 1));
        long ann = 44 + 59 * 22;
        Edge.asked("his VALUES", scene, ann, x -> x.arm(0, 7));
        Edge.asked("his throws", scene, 60, x -> x.arm(0, 5));
        Edge.asked("his OUTINGS", scene, 1, x -> x.arm(0, 6));
        Edge.asked("VALUES of the GAME", scene, ann + 20 * 47, x -> x.game(0, 5));
        Edge.asked("VALUES of THE PLAN", scene, ann + 20 * 47, x -> x.value());
        Edge.asked("throws of the left ones", scene, 60, x -> x.hands(0, false));
        Edge.asked("his seven DAYS", scene, 60, x -> x.work(0, 6));
        Edge.asked("his RISK", scene, 2 * 59, x -> x.risk(0));
        Edge.asked("VALUES of a SEASON", scene, ann + 20 * 47, x -> x.season(1, 3));
    }

    /** "by VALUE of the lesser of STAMINA and NEED": not of what nobody throws yet. */
    private static void rankedByNeed() {
        Edge.Scene scene = Edge.scene("arm a left 20 30 30 0;arm b left 10 100 100 0;"
            + "arm c left 9 70 70 0;game 0 4 100", x -> x.put(0, 2, 70, false));
        int[] due = {1, 2, 0};
        for (int i = 0; i < 3; i++) {
            int place = i;
            Edge.asked("ranked " + i, scene, due[i], x -> x.ranked(0, place));
        }
    }

    /** "as if it needed 200 more": the greatest STAMINA finds room, though nothing is left. */
    private static void extraOfTwoHundred() {
        Edge.Scene scene = Edge.scene("arm a left 9 120 9 0;arm b left 9 120 9 0;"
            + "arm c left 9 119 9 0;game 0 0 120", x -> x.put(0, 0, 120, false));
        Edge.asked("nothing is left", scene, 0, x -> x.most(1, 0));
        Edge.asked("each for himself", scene, 120 + 119, x -> x.extra(0));
    }

    /** "4 its own REST (to a later one)": by x, though that is above STAMINA. */
    private static void ownRestByThrowsAsked() {
        Edge.Scene scene = Edge.scene("arm a left 9 30 9 0;game 0 0 200;game 2 0 200;rest 31 2;"
            + "rest 90 0;week 101", x -> x.put(1, 0, 1, false));
        int[][] due = {{30, 0}, {31, 5}, {89, 5}, {90, 1}, {100, 1}, {101, 9}};
        for (int[] row : due) {
            Edge.asked("clash of " + row[0], scene, row[1], x -> x.clash(0, 0, row[0]));
        }
    }

    /** "by which VALUES together are greatest": nobody may be better than one who could throw. */
    private static void nobodyForMore() {
        String one = "arm a left 7 50 50 0;game 0 0 10;game 1 0 50;game 2 0 10;rest 10 1";
        ThrowArms arms = Check.told(one);
        Check.answered("he may throw in GAME 0", arms, arms.most(0, 0), 10);
        row(arms, 2, 350, -2, 0);
        row(arms, 3, 350, -2, 0, -2);
        // b's 60 in GAME 0 are more than nothing: a waits, b doesn't
        row(Check.told("arm b left 6 10 10 0;" + one), 2, 60 + 350, 0, 1);
    }

    private static void row(ThrowArms arms, int n, int sum, int... due) {
        Check.answered("best", arms, arms.best(0, n), sum);
        for (int i = 0; i < n; i++) {
            Check.answered("bestOf " + i, arms, arms.bestOf(0, n, i), due[i]);
        }
        Check.answered("laid", arms, arms.laid(0, n), sum);
        for (int i = 0; i < n; i++) {
            Check.answered("OUTINGS", arms, arms.game(i, 3), due[i] < 0 ? 0 : 1);
        }
    }

    /** "GAME by GAME, OUTING by OUTING": as they came, not by numbers of THROWERS. */
    private static void outingByOuting() {
        // seed 1 draws 807, then 249: a's RISK is 270
        String text = "arm a left 2 120 0 9;arm b left 2 120 120 0;game 0 0 200";
        Edge.asked("a is the second", Edge.scene(text, x -> x.put(0, 1, 1, false),
            x -> x.put(0, 0, 30, false)), 1, x -> x.season(1, 0));
        Edge.asked("a is the first", Edge.scene(text, x -> x.put(0, 0, 30, false),
            x -> x.put(0, 1, 1, false)), 0, x -> x.season(1, 0));
        // b came to the later GAME first
        String games = "arm a left 2 120 0 9;arm b left 2 120 120 0;game 0 0 200;game 9 0 200";
        Edge.asked("by GAMES", Edge.scene(games, x -> x.put(1, 1, 1, false),
            x -> x.put(0, 0, 30, false)), 0, x -> x.season(1, 0));
        Edge.asked("by GAMES", Edge.scene(games, x -> x.put(1, 0, 30, false),
            x -> x.put(0, 1, 1, false)), 1, x -> x.season(1, 0));
    }

    /** "5 (he has more than six)", be there a RISK or not. */
    private static void soundOfMoreThanSix() {
        StringBuilder text = new StringBuilder("arm a left 9 120 120 0");
        for (int g = 0; g < 7; g++) {
            text.append(";game ").append(g).append(" 0 9");
        }
        ThrowArms arms = Check.told(text.toString());
        for (int g = 0; g < 7; g++) {
            Check.answered("sound above", arms, arms.sound(0, 0), 1);
            Check.answered("sound below", arms, arms.sound(0, 1), 1);
            arms.put(g, 0, 1, false);
        }
        Check.refused("sound above", arms, arms.sound(0, 0), 5);
        Check.refused("sound below", arms, arms.sound(0, 1), 5);
    }

    /** "the THROWER of which, changed for another one (.. throws stay ..)": its place stays, too. */
    private static void betterLeavesTheOrder() {
        Edge.Scene scene = Edge.scene("arm a left 5 50 50 0;arm b left 6 50 50 0;"
            + "arm c left 9 50 50 0;game 0 4 100", x -> x.put(0, 0, 20, false),
            x -> x.put(0, 1, 10, false));
        Edge.acted("better", scene, 1, x -> x.better());
        ThrowArms arms = scene.set();
        arms.better();
        int[][] due = {{2, 20}, {1, 10}};
        for (int k = 0; k < 2; k++) {
            Check.answered("who", arms, arms.outing(0, k, 0), due[k][0]);
            Check.answered("throws", arms, arms.outing(0, k, 1), due[k][1]);
        }
    }

    /** "an OUTING with his MOST comes of that one for whom it has the greatest VALUE": as it is then. */
    private static void fillByWhatIsLeft() {
        // b's 60 throws are worth more than c's 20; of the 10 that a leaves c's are
        Edge.Scene scene = Edge.scene("arm a left 10 60 60 0;arm b left 9 60 60 0;"
            + "arm c left 20 20 20 0;game 0 4 70");
        Edge.acted("fill", scene, 2, x -> x.fill(0));
        ThrowArms arms = scene.set();
        arms.fill(0);
        int[][] due = {{0, 60}, {2, 10}};
        for (int k = 0; k < 2; k++) {
            Check.answered("who", arms, arms.outing(0, k, 0), due[k][0]);
            Check.answered("throws", arms, arms.outing(0, k, 1), due[k][1]);
        }
    }

    /** "FILL GAMES from 0 on, all": the first is full ahead of the second one's first OUTING. */
    private static void fillAllGameByGame() {
        Edge.Scene scene = Edge.scene("arm a left 9 50 50 0;arm b left 8 50 50 0;game 0 4 200;"
            + "game 1 4 200;rest 1 1");
        Edge.acted("fillAll", scene, 2, x -> x.fillAll());
        ThrowArms arms = scene.set();
        arms.fillAll();
        Check.answered("both are in the first", arms, arms.game(0, 3), 2);
        Check.answered("nobody is in the second", arms, arms.game(1, 3), 0);
    }

    /** "0 it wasn't": undo() is a call that may be refused. */
    private static void undoIsNotRefused() {
        ThrowArms arms = Check.told(Edge.LEAST);
        arms.put(0, 0, 1, false);
        arms.rule(0, 9);
        Check.refused("another call", arms, arms.about(8), 1);
        Check.answered("undo behind it", arms, arms.undo(), 1);
        Check.equal("a FAULT", Check.tell(arms, "week ?"), ThrowArms.NONE);
        Check.equal("its place", arms.where(), 5);
        Check.answered("undo behind it", arms, arms.undo(), 0);
    }

    /** "the greatest x .. that would be ALLOWED": what WEEK leaves may still ask for too much rest. */
    private static void mostByWeekAndRest() {
        String text = "arm a left 9 60 9 0;game 0 0 60;game 3 0 60;rest 20 5;rest 55 0;week ";
        int[][] due = {{0, 60}, {65, 60}, {60, 55}, {59, 19}, {45, 19}, {24, 19}, {23, 18}, {5, 0}};
        for (int[] row : due) {
            Edge.Scene scene = Edge.scene(text + row[0], x -> x.put(1, 0, 5, false));
            Edge.asked("most by WEEK " + row[0], scene, row[1], x -> x.most(0, 0));
        }
    }

    /** "THE BEST .. is in THE PLAN": also one who is ahead of nobody with a VALUE of 0. */
    private static void laidThoughWorthNothing() {
        ThrowArms arms = Check.told("arm a left 9 50 50 0;game 0 0 40;edge 1");
        Check.answered("laid", arms, arms.laid(0, 1), 0);
        Check.answered("an OUTING", arms, arms.game(0, 3), 1);
        Check.answered("its throws", arms, arms.outing(0, 0, 1), 40);
    }

    /** "that change by which it grows most": not the one by which it is greatest then. */
    private static void betterByGrowth() {
        // c may be in one of both: 300 more of 1,500 are less than 1,180 more of 20
        Edge.Scene scene = Edge.scene("arm a left 50 60 60 0;arm b left 1 60 60 0;"
            + "arm c left 60 60 60 0;game 0 4 60;game 1 4 60;rest 1 1", x -> x.put(0, 0, 30, false),
            x -> x.put(1, 1, 20, false));
        Edge.acted("better", scene, 1, x -> x.better());
        ThrowArms arms = scene.set();
        arms.better();
        Check.answered("a stays", arms, arms.outing(0, 0, 0), 0);
        Check.answered("c in b's place", arms, arms.outing(1, 0, 0), 2);
    }

    /** "OUTING by OUTING": the third of a GAME, too. */
    private static void thirdOutingIsThrown() {
        // seed 1 draws 807, 249, 73: c's RISK is 81
        Edge.Scene scene = Edge.scene("arm a left 2 9 9 9;arm b left 2 9 9 9;arm c left 2 9 0 9;"
            + "game 0 0 200;game 1 0 200", x -> x.put(0, 0, 1, false), x -> x.put(0, 1, 1, false),
            x -> x.put(0, 2, 9, false), x -> x.put(1, 2, 1, false));
        int[] due = {1, 4, 1, 2 + 2 + 9, 0};
        for (int what = 0; what < due.length; what++) {
            int which = what;
            Edge.asked("season " + what, scene, due[what], x -> x.season(1, which));
        }
        Edge.asked("span of one", scene, 2 + 2 + 9, x -> x.span(1, 1, 1));
    }

    /** rule() and rests() change what they name; what isn't ALLOWED then stays. */
    private static void rulesLeaveThePlan() {
        Edge.Call[] acts = {x -> x.rule(0, 0), x -> x.rule(0, 1), x -> x.rule(0, 500),
            x -> x.rule(1, 0), x -> x.rule(1, 9), x -> x.rule(2, 1), x -> x.rule(2, 60),
            x -> x.rests(0, 0), x -> x.rests(0, 9), x -> x.rests(1, 9)};
        int[] breaches = {0, 3, 0, 0, 0, 0, 0, 0, 2, 0};
        for (int i = 0; i < acts.length; i++) {
            ThrowArms arms = Check.told(Edge.SMALL);
            arms.put(0, 1, 20, false);
            arms.put(1, 1, 30, false);
            arms.put(3, 2, 11, false);
            Check.isTrue("not refused", acts[i].on(arms) != ThrowArms.NONE);
            Check.answered("OUTINGS", arms, arms.about(2), 3);
            Check.answered("his throws", arms, arms.arm(1, 5), 50);
            Check.answered("his throws", arms, arms.arm(2, 5), 11);
            Check.answered("breaches", arms, arms.breaches(), breaches[i]);
        }
    }

    /** "up to 8": the eighth may be the best for all that is asked. */
    private static void eighthThrower() {
        StringBuilder text = new StringBuilder("game 0 4 80");
        for (int t = 0; t < 8; t++) {
            text.append(";arm ").append((char) ('a' + t)).append(" left ");
            text.append(t < 6 ? 1 : t + 2).append(" 50 50 0");
        }
        Edge.Scene scene = Edge.scene(text.toString());
        Edge.asked("ranked", scene, 7, x -> x.ranked(0, 0));
        Edge.asked("extra", scene, 8 * 50, x -> x.extra(0));
        Edge.asked("best", scene, 450, x -> x.best(0, 1));
        Edge.asked("bestOf", scene, 7, x -> x.bestOf(0, 1, 0));
        int[][] pairs = {{50, 450 + 240, 7, 6}, {30, 450 + 240, 6, 7}};
        for (int[] row : pairs) {
            for (int what = 0; what < 3; what++) {
                int which = what;
                Edge.asked("pair " + what, scene, row[1 + what], x -> x.pair(0, row[0], which));
            }
        }
        Edge.acted("fill", scene, 2, x -> x.fill(0));
        ThrowArms arms = scene.set();
        arms.fill(0);
        Check.answered("the eighth first", arms, arms.outing(0, 0, 0), 7);
        Check.answered("the seventh then", arms, arms.outing(0, 1, 0), 6);
        arms = scene.set();
        arms.put(0, 0, 50, false);
        Check.answered("better", arms, arms.better(), 1);
        Check.answered("the eighth", arms, arms.outing(0, 0, 0), 7);
    }

    /** "up to 20": the last GAME counts for rests, WEEK and what is added up. */
    private static void twentiethGame() {
        StringBuilder text = new StringBuilder("arm a left 9 50 50 0;rest 20 1;week 60");
        for (int g = 0; g < 20; g++) {
            text.append(";game ").append(g).append(" 4 50");
        }
        Edge.Scene scene = Edge.scene(text.toString(), x -> x.put(19, 0, 30, false));
        int[][] due = {{19, 0}, {20, 4}, {30, 4}, {31, 12}, {51, 13}};
        for (int[] row : due) {
            Edge.asked("clash of " + row[0], scene, row[1], x -> x.clash(0, 18, row[0]));
        }
        Edge.asked("most ahead of it", scene, 19, x -> x.most(0, 18));
        Edge.asked("his throws", scene, 30, x -> x.arm(0, 5));
        Edge.asked("his OUTINGS", scene, 1, x -> x.arm(0, 6));
        Edge.asked("his VALUES", scene, 270, x -> x.arm(0, 7));
        Edge.asked("all VALUES", scene, 270, x -> x.value());
    }
}
