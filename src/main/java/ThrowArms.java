import java.util.NoSuchElementException;

/**
 * Arms rested: who throws how much in which game, by rests that grow with counts and a bound for
 * seven days. The promises are those of the document; words in capitals are its terms.
 */
public final class ThrowArms {
    public static final int NONE = -1;

    /** What a call answers that isn't refused and yet finds nothing. */
    private static final int NOTHING = -2;

    private static final int NO_SUCH = 1;
    private static final int BAD_NUMBER = 2;
    private static final int NO_ROOM = 3;
    private static final int FAULTY = 4;
    private static final int NOT_SO = 5;

    private static final int TAPE_BYTES = 800;
    private static final int FEED_BYTES = 20;
    private static final int WORD_LETTERS = 7;
    private static final int WHOLE_DIGITS = 3;

    private static final int MAX_ARMS = 8;
    private static final int MAX_GAMES = 20;
    private static final int MAX_RESTS = 5;
    private static final int MAX_LINES = MAX_ARMS + MAX_GAMES + MAX_RESTS + 3;
    private static final int PLACES = 3;
    private static final int MAX_OUTINGS = MAX_GAMES * PLACES;
    private static final int MAX_BEST = 5;
    private static final int MAX_ACTS = 10;
    private static final int MAX_CHANGES = 99;
    private static final int MAX_SEEDS = 100;
    private static final int MAX_SEED = 2147483646;
    private static final int MAX_SOUND = 6;

    private static final int DAYS = 60;
    private static final int WEEK_DAYS = 7;
    private static final int BATTERS = 9;
    private static final int MOST_THROWS = 120;
    private static final int MOST_ASKED = 200;
    private static final int MOST_REST = 9;
    private static final int MORE_INNINGS = 200;

    /** More than any count of throws or DAYS: stands for "no bound". */
    private static final int UNBOUNDED = 1000000;

    private static final int RIGHT = 1;

    /** What a THROWER has, in the order in which a LINE tells it. */
    private static final int STRENGTH = 0;
    private static final int STAMINA = 1;
    private static final int TIRES = 2;
    private static final int FRAIL = 3;
    private static final int TRAITS = 4;
    private static final int[] TRAIT_LOW = {1, 1, 0, 0};
    private static final int[] TRAIT_HIGH = {99, 120, 120, 9};

    /** What a GAME has, in the order in which a LINE tells it. */
    private static final int DAY = 0;
    private static final int LEFTS = 1;
    private static final int NEED = 2;
    private static final int FACTS = 3;
    private static final int[] FACT_LOW = {0, 0, 1};
    private static final int[] FACT_HIGH = {59, 9, 200};

    private static final int WEEK = 0;
    private static final int EDGE = 1;
    private static final int OUT = 2;
    private static final int BOUNDS = 3;
    private static final int[] BOUND_LOW = {0, 0, 1};
    private static final int[] BOUND_HIGH = {500, 9, 60};
    private static final int[] BOUND_WITHOUT = {0, 0, 15};

    private static final int CLASH_STAMINA = 1;
    private static final int CLASH_EARLIER = 2;
    private static final int CLASH_LATER = 4;
    private static final int CLASH_WEEK = 8;

    private final Tape tape = new Tape();
    private final Reader reader = new Reader(tape);
    private final Told told = new Told();
    private final Plan plan = new Plan();
    private final Book book = new Book(told, plan);
    private final Diary diary = new Diary(book);
    private final Best bestRow = new Best(book, diary);
    private final Chooser chooser = new Chooser(book, diary);
    private final Season played = new Season(book);
    private final History history = new History(told, plan);
    private int lastTrouble = 0;
    private int lastFault = 0;
    private int faultPlace = NONE;

    public ThrowArms() {
    }

    // ---- texts

    public int feed(int a, int b, int c, int d, int e) {
        if (tape.length + FEED_BYTES > TAPE_BYTES) {
            return NONE;
        }
        tape.append(a);
        tape.append(b);
        tape.append(c);
        tape.append(d);
        tape.append(e);
        return tape.length;
    }

    public int text(int n) {
        if (!within(n, 0, tape.length)) {
            return refuse(BAD_NUMBER);
        }
        boolean good = reader.read(n);
        tape.length = 0;
        lastFault = reader.number;
        if (!good) {
            refuse(FAULTY);
            faultPlace = reader.place;
            return NONE;
        }
        told.copyFrom(reader.draft);
        plan.empty();
        history.count = 0;
        return answer(told.games);
    }

    public int fault() {
        return lastFault;
    }

    public int where() {
        return faultPlace;
    }

    // ---- what is told

    public int about(int what) {
        if (!hasText() || !within(what, 0, 7)) {
            return refuse(NO_SUCH);
        }
        return answer(tellAll(what));
    }

    private int tellAll(int what) {
        switch (what) {
            case 0: return told.arms;
            case 1: return told.games;
            case 2: return book.allOutings();
            case 3: return told.bounds[WEEK];
            case 4: return told.bounds[EDGE];
            case 5: return told.bounds[OUT];
            case 6: return told.restCount;
            default: return history.count;
        }
    }

    public int arm(int t, int what) {
        if (!hasArm(t) || !within(what, 0, 7)) {
            return refuse(NO_SUCH);
        }
        return answer(tellArm(t, what));
    }

    private int tellArm(int t, int what) {
        switch (what) {
            case 0: return told.hands[t];
            case 1: return told.trait(t, STRENGTH);
            case 2: return told.trait(t, STAMINA);
            case 3: return told.trait(t, TIRES);
            case 4: return told.trait(t, FRAIL);
            case 5: return book.throwsOfArm(t);
            case 6: return book.outingsOfArm(t);
            default: return book.valueOfArm(t);
        }
    }

    public int game(int g, int what) {
        if (!hasGame(g) || !within(what, 0, 5)) {
            return refuse(NO_SUCH);
        }
        return answer(tellGame(g, what));
    }

    private int tellGame(int g, int what) {
        switch (what) {
            case 0: return told.fact(g, DAY);
            case 1: return told.fact(g, LEFTS);
            case 2: return told.fact(g, NEED);
            case 3: return plan.filled[g];
            case 4: return book.leftIn(g);
            default: return book.valueOfGame(g);
        }
    }

    public int rest(int x) {
        if (!hasText()) {
            return refuse(NO_SUCH);
        }
        if (!within(x, 0, MOST_ASKED)) {
            return refuse(BAD_NUMBER);
        }
        return answer(told.restAfter(x));
    }

    public int outing(int g, int k, int what) {
        if (!hasOuting(g, k) || !within(what, 0, 4)) {
            return refuse(NO_SUCH);
        }
        return answer(tellOuting(g, k, what));
    }

    private int tellOuting(int g, int k, int what) {
        switch (what) {
            case 0: return plan.armAt(g, k);
            case 1: return plan.throwsAt(g, k);
            case 2: return book.valueAt(g, k);
            case 3: return book.riskAt(g, k);
            default: return diary.allowsAt(g, k) ? 1 : 0;
        }
    }

    public int value() {
        if (!hasText()) {
            return refuse(NO_SUCH);
        }
        int sum = 0;
        for (int g = 0; g < told.games; g++) {
            sum += book.valueOfGame(g);
        }
        return answer(sum);
    }

    // ---- who may

    public int points(int t, int g) {
        if (!hasArm(t) || !hasGame(g)) {
            return refuse(NO_SUCH);
        }
        return answer(book.pointsOf(t, g));
    }

    public int worth(int t, int g, int x) {
        if (!hasArm(t) || !hasGame(g)) {
            return refuse(NO_SUCH);
        }
        if (!within(x, 0, MOST_ASKED)) {
            return refuse(BAD_NUMBER);
        }
        return answer(book.valueOf(t, g, x));
    }

    public int most(int t, int g) {
        if (!hasArm(t) || !hasGame(g)) {
            return refuse(NO_SUCH);
        }
        return answer(diary.mostOf(t, g, 0));
    }

    public int when(int t, int g, int x) {
        if (!hasArm(t) || !hasGame(g)) {
            return refuse(NO_SUCH);
        }
        if (!within(x, 1, MOST_THROWS)) {
            return refuse(BAD_NUMBER);
        }
        for (int h = g; h < told.games; h++) {
            if (diary.mostOf(t, h, 0) >= x) {
                return answer(h);
            }
        }
        return answer(NOTHING);
    }

    public int ranked(int g, int i) {
        if (!hasGame(g) || !within(i, 0, told.arms - 1)) {
            return refuse(NO_SUCH);
        }
        for (int t = 0; t < told.arms; t++) {
            if (countAhead(t, g) == i) {
                return answer(t);
            }
        }
        return answer(NOTHING);
    }

    /** How many THROWERS are ranked ahead of this one. */
    private int countAhead(int t, int g) {
        int own = book.valueOf(t, g, book.fullThrows(t, g));
        int ahead = 0;
        for (int other = 0; other < told.arms; other++) {
            int value = book.valueOf(other, g, book.fullThrows(other, g));
            if (value > own || value == own && other < t) {
                ahead++;
            }
        }
        return ahead;
    }

    public int extra(int g) {
        if (!hasGame(g)) {
            return refuse(NO_SUCH);
        }
        int sum = 0;
        for (int t = 0; t < told.arms; t++) {
            sum += diary.mostOf(t, g, MORE_INNINGS);
        }
        return answer(sum);
    }

    public int clash(int t, int g, int x) {
        if (!hasArm(t) || !hasGame(g)) {
            return refuse(NO_SUCH);
        }
        if (!within(x, 1, MOST_THROWS)) {
            return refuse(BAD_NUMBER);
        }
        diary.open(t);
        return answer(diary.clashes(g, x));
    }

    // ---- plans

    public int best(int g, int n) {
        int trouble = troubleOfBest(g, n);
        if (trouble != 0) {
            return refuse(trouble);
        }
        bestRow.find(g, n);
        return answer(bestRow.sum);
    }

    public int bestOf(int g, int n, int i) {
        int trouble = troubleOfBest(g, n);
        if (trouble != 0) {
            return refuse(trouble);
        }
        if (!within(i, 0, n - 1)) {
            return refuse(NO_SUCH);
        }
        bestRow.find(g, n);
        return answer(bestRow.row[i]);
    }

    private int troubleOfBest(int g, int n) {
        if (!hasGame(g)) {
            return NO_SUCH;
        }
        if (!within(n, 1, MAX_BEST)) {
            return BAD_NUMBER;
        }
        return g + n > told.games ? NO_SUCH : 0;
    }

    public int pair(int g, int o, int what) {
        if (!hasGame(g) || !within(what, 0, 2)) {
            return refuse(NO_SUCH);
        }
        if (!within(o, 1, MOST_THROWS)) {
            return refuse(BAD_NUMBER);
        }
        chooser.choosePair(g, o);
        if (what == 0) {
            return answer(chooser.pairValue);
        }
        return answer(what == 1 ? chooser.pairOne : chooser.pairOther);
    }

    // ---- what isn't so

    public int breaches() {
        if (!hasText()) {
            return refuse(NO_SUCH);
        }
        int count = 0;
        for (int g = 0; g < told.games; g++) {
            for (int k = 0; k < plan.filled[g]; k++) {
                count += diary.allowsAt(g, k) ? 0 : 1;
            }
        }
        return answer(count);
    }

    public int breach(int k) {
        if (!hasText() || k < 0) {
            return refuse(NO_SUCH);
        }
        int ahead = 0;
        for (int g = 0; g < told.games; g++) {
            for (int place = 0; place < plan.filled[g]; place++) {
                if (diary.allowsAt(g, place)) {
                    continue;
                }
                if (ahead == k) {
                    return answer(PLACES * g + place);
                }
                ahead++;
            }
        }
        return answer(NOTHING);
    }

    public int work(int t, int d) {
        if (!hasArm(t)) {
            return refuse(NO_SUCH);
        }
        if (!within(d, 0, DAYS - 1)) {
            return refuse(BAD_NUMBER);
        }
        return answer(book.weekOfArm(t, d));
    }

    public int busiest(int t, int what) {
        if (!hasArm(t) || !within(what, 0, 1)) {
            return refuse(NO_SUCH);
        }
        int greatest = 0;
        int first = 0;
        for (int d = 0; d < DAYS; d++) {
            int thrown = book.weekOfArm(t, d);
            if (thrown > greatest) {
                greatest = thrown;
                first = d;
            }
        }
        return answer(what == 0 ? greatest : first);
    }

    public int idle(int t) {
        if (!hasArm(t)) {
            return refuse(NO_SUCH);
        }
        int longest = 0;
        int last = -1;
        for (int g = 0; g < told.games; g++) {
            if (plan.has(t, g)) {
                longest = Math.max(longest, told.fact(g, DAY) - last - 1);
                last = told.fact(g, DAY);
            }
        }
        return answer(Math.max(longest, DAYS - last - 1));
    }

    public int gap(int t) {
        if (!hasArm(t)) {
            return refuse(NO_SUCH);
        }
        int fewest = UNBOUNDED;
        int last = NONE;
        for (int g = 0; g < told.games; g++) {
            if (!plan.has(t, g)) {
                continue;
            }
            if (last != NONE) {
                fewest = Math.min(fewest, told.daysFrom(last, g));
            }
            last = g;
        }
        return answer(fewest == UNBOUNDED ? NOTHING : fewest);
    }

    public int hands(int g, boolean right) {
        if (!hasGame(g)) {
            return refuse(NO_SUCH);
        }
        int sum = 0;
        for (int k = 0; k < plan.filled[g]; k++) {
            boolean throwsRight = told.hands[plan.armAt(g, k)] == RIGHT;
            if (throwsRight == right) {
                sum += plan.throwsAt(g, k);
            }
        }
        return answer(sum);
    }

    public int bare(int k) {
        if (!hasText() || k < 0) {
            return refuse(NO_SUCH);
        }
        int ahead = 0;
        for (int g = 0; g < told.games; g++) {
            if (plan.filled[g] > 0) {
                continue;
            }
            if (ahead == k) {
                return answer(g);
            }
            ahead++;
        }
        return answer(NOTHING);
    }

    // ---- who is hurt

    public int risk(int t) {
        if (!hasArm(t)) {
            return refuse(NO_SUCH);
        }
        int sum = 0;
        for (int g = 0; g < told.games; g++) {
            sum += book.riskOf(t, plan.loadOf(t, g));
        }
        return answer(sum);
    }

    public long sound(int t, int what) {
        if (!hasArm(t) || !within(what, 0, 1)) {
            return refuse(NO_SUCH);
        }
        if (book.outingsOfArm(t) > MAX_SOUND) {
            return refuse(NOT_SO);
        }
        answer(0);
        long above = 1;
        long below = 1;
        for (int g = 0; g < told.games; g++) {
            if (plan.has(t, g)) {
                above *= Math.max(0, 1000 - book.riskOf(t, plan.loadOf(t, g)));
                below *= 1000;
            }
        }
        long common = commonDivisor(above, below);
        long part = what == 0 ? above : below;
        return common > 1 ? part / common : part;
    }

    /** By Euclid; two longs need fewer than 100 steps. */
    private static long commonDivisor(long a, long b) {
        for (int step = 0; step < 100 && b != 0; step++) {
            long left = a % b;
            a = b;
            b = left;
        }
        return a;
    }

    public int season(int seed, int what) {
        if (!hasText() || !within(what, 0, 4)) {
            return refuse(NO_SUCH);
        }
        if (!within(seed, 1, MAX_SEED)) {
            return refuse(BAD_NUMBER);
        }
        played.play(seed);
        return answer(tellSeason(what));
    }

    private int tellSeason(int what) {
        switch (what) {
            case 0: return played.hurts;
            case 1: return played.who;
            case 2: return played.missed;
            case 3: return played.gained;
            default: return played.firstGame;
        }
    }

    public int span(int seed, int n, int what) {
        if (!hasText() || !within(what, 0, 2)) {
            return refuse(NO_SUCH);
        }
        if (!within(n, 1, MAX_SEEDS) || !within(seed, 1, MAX_SEED - n + 1)) {
            return refuse(BAD_NUMBER);
        }
        int unhurt = 0;
        int least = Integer.MAX_VALUE;
        int greatest = 0;
        for (int i = 0; i < n; i++) {
            played.play(seed + i);
            unhurt += played.hurts == 0 ? 1 : 0;
            least = Math.min(least, played.gained);
            greatest = Math.max(greatest, played.gained);
        }
        if (what == 0) {
            return answer(unhurt);
        }
        return answer(what == 1 ? least : greatest);
    }

    // ---- acts

    public int put(int g, int t, int x, boolean forced) {
        if (!hasGame(g) || !hasArm(t)) {
            return refuse(NO_SUCH);
        }
        if (!within(x, 1, told.trait(t, STAMINA))) {
            return refuse(BAD_NUMBER);
        }
        if (plan.filled[g] >= PLACES || x > book.leftIn(g)) {
            return refuse(NO_ROOM);
        }
        if (plan.has(t, g) || !forced && !diary.allowsIn(t, g, x)) {
            return refuse(NOT_SO);
        }
        history.keep();
        plan.add(g, t, x);
        return answer(plan.filled[g]);
    }

    public int take(int g, int k) {
        if (!hasOuting(g, k)) {
            return refuse(NO_SUCH);
        }
        history.keep();
        int had = plan.throwsAt(g, k);
        plan.remove(g, k);
        return answer(had);
    }

    public int shift(int g, int k, int x) {
        if (!hasOuting(g, k)) {
            return refuse(NO_SUCH);
        }
        int t = plan.armAt(g, k);
        int had = plan.throwsAt(g, k);
        if (!within(x, 1, told.trait(t, STAMINA))) {
            return refuse(BAD_NUMBER);
        }
        if (x - had > book.leftIn(g)) {
            return refuse(NO_ROOM);
        }
        if (!diary.allowsIn(t, g, x)) {
            return refuse(NOT_SO);
        }
        history.keep();
        plan.change(g, k, t, x);
        return answer(had);
    }

    public boolean swap(int g, int k, int h, int j) {
        if (!hasOuting(g, k) || !hasOuting(h, j)) {
            refuse(NO_SUCH);
            return false;
        }
        if (!mayTrade(g, k, h, j)) {
            refuse(NOT_SO);
            return false;
        }
        history.keep();
        int one = plan.armAt(g, k);
        int other = plan.armAt(h, j);
        plan.change(g, k, other, plan.throwsAt(g, k));
        plan.change(h, j, one, plan.throwsAt(h, j));
        answer(0);
        return true;
    }

    private boolean mayTrade(int g, int k, int h, int j) {
        int one = plan.armAt(g, k);
        int other = plan.armAt(h, j);
        if (g == h || plan.has(one, h) || plan.has(other, g)) {
            return false;
        }
        return diary.allowsMoved(one, g, h, plan.throwsAt(h, j))
            && diary.allowsMoved(other, h, g, plan.throwsAt(g, k));
    }

    public int better() {
        if (!hasText()) {
            return refuse(NO_SUCH);
        }
        history.keep();
        int changes = 0;
        while (changes < MAX_CHANGES && chooser.changeBest()) {
            changes++;
        }
        return answer(changes);
    }

    public int fill(int g) {
        if (!hasGame(g)) {
            return refuse(NO_SUCH);
        }
        history.keep();
        return answer(chooser.fillGame(g));
    }

    public int fillAll() {
        if (!hasText()) {
            return refuse(NO_SUCH);
        }
        history.keep();
        int came = 0;
        for (int g = 0; g < told.games; g++) {
            came += chooser.fillGame(g);
        }
        return answer(came);
    }

    public int laid(int g, int n) {
        int trouble = troubleOfBest(g, n);
        if (trouble != 0) {
            return refuse(trouble);
        }
        bestRow.find(g, n);
        history.keep();
        for (int i = 0; i < n; i++) {
            plan.emptyGame(g + i);
            int t = bestRow.row[i];
            if (t != NOTHING) {
                plan.add(g + i, t, book.fullThrows(t, g + i));
            }
        }
        return answer(bestRow.sum);
    }

    public int become(int t, int what, int v) {
        if (!hasArm(t) || !within(what, 0, TRAITS - 1)) {
            return refuse(NO_SUCH);
        }
        if (!within(v, TRAIT_LOW[what], told.highestTrait(t, what))) {
            return refuse(BAD_NUMBER);
        }
        history.keep();
        int was = told.trait(t, what);
        told.setTrait(t, what, v);
        if (told.trait(t, TIRES) > told.trait(t, STAMINA)) {
            told.setTrait(t, TIRES, told.trait(t, STAMINA));
        }
        return answer(was);
    }

    public int rule(int what, int v) {
        if (!hasText() || !within(what, 0, BOUNDS - 1)) {
            return refuse(NO_SUCH);
        }
        if (!within(v, BOUND_LOW[what], BOUND_HIGH[what])) {
            return refuse(BAD_NUMBER);
        }
        history.keep();
        int was = told.bounds[what];
        told.bounds[what] = v;
        return answer(was);
    }

    public int rests(int i, int v) {
        if (!hasText() || !within(i, 0, told.restCount - 1)) {
            return refuse(NO_SUCH);
        }
        if (!within(v, 0, MOST_REST)) {
            return refuse(BAD_NUMBER);
        }
        history.keep();
        int was = told.restDays[i];
        told.restDays[i] = v;
        return answer(was);
    }

    public int undo() {
        if (!hasText()) {
            return refuse(NO_SUCH);
        }
        if (history.count == 0) {
            return refuse(NOT_SO);
        }
        history.goBack();
        return answer(history.count);
    }

    // ---- names

    public int named(int n) throws NoSuchElementException {
        int t = within(n, 0, tape.length) ? told.armNamed(tape.onlyWord(n)) : NONE;
        if (t == NONE) {
            throw new NoSuchElementException("no thrower has that name");
        }
        return t;
    }

    public int size() {
        return tape.length;
    }

    public int trouble() {
        return lastTrouble;
    }

    // ---- what all calls use

    private int refuse(int number) {
        lastTrouble = number;
        faultPlace = NONE;
        return NONE;
    }

    private int answer(int it) {
        lastTrouble = 0;
        faultPlace = NONE;
        return it;
    }

    /** Every TEXT has a GAME, so none of them means no TEXT. */
    private boolean hasText() {
        return told.games > 0;
    }

    private boolean hasArm(int t) {
        return within(t, 0, told.arms - 1);
    }

    private boolean hasGame(int g) {
        return within(g, 0, told.games - 1);
    }

    private boolean hasOuting(int g, int k) {
        return hasGame(g) && within(k, 0, plan.filled[g] - 1);
    }

    private static boolean within(int x, int low, int high) {
        return x >= low && x <= high;
    }

    /** THE TAPE, and the TOKENS of its first bytes. */
    private static final class Tape {
        static final int END = 0;
        static final int WORD = 1;
        static final int WHOLE = 2;
        static final int SEMICOLON = 3;
        static final int BAD = 4;

        /** No WORD has this code. */
        static final long NO_CODE = 0;

        private final byte[] bytes = new byte[TAPE_BYTES];
        int length = 0;

        private int limit = 0;
        private int at = 0;
        int kind = END;
        int start = 0;
        int number = 0;
        long code = NO_CODE;

        void append(int four) {
            for (int shift = 24; shift >= 0 && length < TAPE_BYTES; shift -= 8) {
                bytes[length] = (byte) (four >>> shift);
                length++;
            }
        }

        void beginTokens(int n) {
            limit = Math.max(0, Math.min(n, length));
            at = 0;
        }

        void nextToken() {
            while (at < limit && bytes[at] == ' ') {
                at++;
            }
            start = at;
            if (at >= limit) {
                kind = END;
            } else if (isLetter(bytes[at])) {
                scanWord();
            } else if (isDigit(bytes[at])) {
                scanWhole();
            } else {
                kind = bytes[at] == ';' ? SEMICOLON : BAD;
                at++;
            }
        }

        /** Seven letters of five bits each: a NAME is one number, cheap to keep and to compare. */
        private void scanWord() {
            code = NO_CODE;
            while (at < limit && isLetter(bytes[at])) {
                code = code << 5 | bytes[at] - 'a' + 1;
                at++;
            }
            kind = at - start <= WORD_LETTERS ? WORD : BAD;
        }

        private void scanWhole() {
            number = 0;
            while (at < limit && isDigit(bytes[at])) {
                number = 10 * number + (bytes[at] - '0');
                at++;
            }
            kind = at - start <= WHOLE_DIGITS ? WHOLE : BAD;
        }

        boolean isWord(String word) {
            if (kind != WORD || at - start != word.length()) {
                return false;
            }
            for (int i = 0; start + i < at; i++) {
                if (bytes[start + i] != word.charAt(i)) {
                    return false;
                }
            }
            return true;
        }

        /** The code of the one WORD in the first n bytes; NO_CODE if there is anything else. */
        long onlyWord(int n) {
            beginTokens(n);
            nextToken();
            if (kind != WORD) {
                return NO_CODE;
            }
            long found = code;
            nextToken();
            return kind == END ? found : NO_CODE;
        }

        private static boolean isLetter(int sign) {
            return sign >= 'a' && sign <= 'z';
        }

        private static boolean isDigit(int sign) {
            return sign >= '0' && sign <= '9';
        }
    }

    /** Reads a TEXT into a draft, so that a FAULT leaves what was told ahead as it is. */
    private static final class Reader {
        static final int FORM = 1;
        static final int OUTSIDE = 2;
        static final int TWICE = 3;
        static final int TOO_MANY = 4;
        static final int LACKING = 5;

        private final Tape tape;
        private final boolean[] bounded = new boolean[BOUNDS];
        final Told draft = new Told();
        int number = 0;
        int place = NONE;

        Reader(Tape tape) {
            this.tape = tape;
        }

        boolean read(int n) {
            number = 0;
            place = NONE;
            draft.empty();
            for (int what = 0; what < BOUNDS; what++) {
                bounded[what] = false;
            }
            tape.beginTokens(n);
            for (int line = 0; line <= MAX_LINES; line++) {
                if (!readLine()) {
                    return false;
                }
                tape.nextToken();
                if (tape.kind == Tape.END) {
                    return draft.arms > 0 && draft.games > 0 || fail(LACKING);
                }
                if (tape.kind != Tape.SEMICOLON) {
                    return fail(FORM);
                }
            }
            return fail(FORM);
        }

        private boolean fail(int fault) {
            number = fault;
            place = tape.start;
            return false;
        }

        private boolean readLine() {
            tape.nextToken();
            if (tape.isWord("arm")) {
                return readArm();
            }
            if (tape.isWord("game")) {
                return readGame();
            }
            if (tape.isWord("rest")) {
                return readRest();
            }
            if (tape.isWord("week")) {
                return readBound(WEEK);
            }
            if (tape.isWord("edge")) {
                return readBound(EDGE);
            }
            return tape.isWord("out") ? readBound(OUT) : fail(FORM);
        }

        private boolean readArm() {
            int t = draft.arms;
            if (t >= MAX_ARMS) {
                return fail(TOO_MANY);
            }
            if (!readName(t) || !readHand(t)) {
                return false;
            }
            for (int what = 0; what < TRAITS; what++) {
                if (!readWhole(TRAIT_LOW[what], draft.highestTrait(t, what))) {
                    return false;
                }
                draft.setTrait(t, what, tape.number);
            }
            draft.arms++;
            return true;
        }

        private boolean readName(int t) {
            tape.nextToken();
            if (tape.kind != Tape.WORD || isReserved()) {
                return fail(FORM);
            }
            if (draft.armNamed(tape.code) != NONE) {
                return fail(TWICE);
            }
            draft.names[t] = tape.code;
            return true;
        }

        private boolean isReserved() {
            return tape.isWord("arm") || tape.isWord("left") || tape.isWord("right")
                || tape.isWord("game") || tape.isWord("rest") || tape.isWord("week")
                || tape.isWord("edge") || tape.isWord("out");
        }

        private boolean readHand(int t) {
            tape.nextToken();
            boolean right = tape.isWord("right");
            if (!right && !tape.isWord("left")) {
                return fail(FORM);
            }
            draft.hands[t] = right ? RIGHT : 0;
            return true;
        }

        private boolean readGame() {
            int g = draft.games;
            if (g >= MAX_GAMES) {
                return fail(TOO_MANY);
            }
            for (int what = 0; what < FACTS; what++) {
                boolean follows = what == DAY && g > 0;
                int low = follows ? draft.fact(g - 1, DAY) + 1 : FACT_LOW[what];
                if (!readWhole(low, FACT_HIGH[what])) {
                    return false;
                }
                draft.facts[g * FACTS + what] = tape.number;
            }
            draft.games++;
            return true;
        }

        private boolean readRest() {
            int i = draft.restCount;
            if (i >= MAX_RESTS) {
                return fail(TOO_MANY);
            }
            int low = i > 0 ? draft.restFrom[i - 1] + 1 : 1;
            if (!readWhole(low, MOST_THROWS)) {
                return false;
            }
            draft.restFrom[i] = tape.number;
            if (!readWhole(0, MOST_REST)) {
                return false;
            }
            draft.restDays[i] = tape.number;
            draft.restCount++;
            return true;
        }

        private boolean readBound(int what) {
            if (bounded[what]) {
                return fail(TWICE);
            }
            bounded[what] = true;
            if (!readWhole(BOUND_LOW[what], BOUND_HIGH[what])) {
                return false;
            }
            draft.bounds[what] = tape.number;
            return true;
        }

        private boolean readWhole(int low, int high) {
            tape.nextToken();
            if (tape.kind != Tape.WHOLE) {
                return fail(FORM);
            }
            return within(tape.number, low, high) || fail(OUTSIDE);
        }
    }

    /** What a TEXT tells, as become(), rule() and rests() changed it. */
    private static final class Told {
        static final int SAVED = MAX_ARMS * TRAITS + BOUNDS + MAX_RESTS;

        int arms = 0;
        final long[] names = new long[MAX_ARMS];
        final int[] hands = new int[MAX_ARMS];
        final int[] traits = new int[MAX_ARMS * TRAITS];
        int games = 0;
        final int[] facts = new int[MAX_GAMES * FACTS];
        final int[] bounds = new int[BOUNDS];
        int restCount = 0;
        final int[] restFrom = new int[MAX_RESTS];
        final int[] restDays = new int[MAX_RESTS];

        void empty() {
            arms = 0;
            games = 0;
            restCount = 0;
            System.arraycopy(BOUND_WITHOUT, 0, bounds, 0, BOUNDS);
        }

        void copyFrom(Told other) {
            arms = other.arms;
            games = other.games;
            restCount = other.restCount;
            System.arraycopy(other.names, 0, names, 0, MAX_ARMS);
            System.arraycopy(other.hands, 0, hands, 0, MAX_ARMS);
            System.arraycopy(other.traits, 0, traits, 0, MAX_ARMS * TRAITS);
            System.arraycopy(other.facts, 0, facts, 0, MAX_GAMES * FACTS);
            System.arraycopy(other.bounds, 0, bounds, 0, BOUNDS);
            System.arraycopy(other.restFrom, 0, restFrom, 0, MAX_RESTS);
            System.arraycopy(other.restDays, 0, restDays, 0, MAX_RESTS);
        }

        int trait(int t, int what) {
            return traits[t * TRAITS + what];
        }

        void setTrait(int t, int what, int v) {
            traits[t * TRAITS + what] = v;
        }

        /** TIRES is the one that is bound by another. */
        int highestTrait(int t, int what) {
            return what == TIRES ? trait(t, STAMINA) : TRAIT_HIGH[what];
        }

        int fact(int g, int what) {
            return facts[g * FACTS + what];
        }

        int daysFrom(int g, int h) {
            return facts[h * FACTS + DAY] - facts[g * FACTS + DAY];
        }

        int armNamed(long code) {
            for (int t = 0; t < arms; t++) {
                if (names[t] == code) {
                    return t;
                }
            }
            return NONE;
        }

        int restAfter(int x) {
            for (int i = restCount - 1; i >= 0; i--) {
                if (restFrom[i] <= x) {
                    return restDays[i];
                }
            }
            return 0;
        }

        void saveTo(int[] memory, int at) {
            System.arraycopy(traits, 0, memory, at, MAX_ARMS * TRAITS);
            System.arraycopy(bounds, 0, memory, at + MAX_ARMS * TRAITS, BOUNDS);
            System.arraycopy(restDays, 0, memory, at + MAX_ARMS * TRAITS + BOUNDS, MAX_RESTS);
        }

        void loadFrom(int[] memory, int at) {
            System.arraycopy(memory, at, traits, 0, MAX_ARMS * TRAITS);
            System.arraycopy(memory, at + MAX_ARMS * TRAITS, bounds, 0, BOUNDS);
            System.arraycopy(memory, at + MAX_ARMS * TRAITS + BOUNDS, restDays, 0, MAX_RESTS);
        }
    }

    /** THE PLAN. An OUTING has a throw at least, so a load of 0 means that there is none. */
    private static final class Plan {
        static final int SAVED = MAX_GAMES + 2 * MAX_OUTINGS;

        final int[] filled = new int[MAX_GAMES];
        private final int[] whose = new int[MAX_OUTINGS];
        private final int[] thrown = new int[MAX_OUTINGS];

        /** The same OUTINGS by THROWERS: kept beside so that nobody's are searched for. */
        private final int[] loads = new int[MAX_ARMS * MAX_GAMES];

        int armAt(int g, int k) {
            return whose[g * PLACES + k];
        }

        int throwsAt(int g, int k) {
            return thrown[g * PLACES + k];
        }

        int loadOf(int t, int g) {
            return loads[t * MAX_GAMES + g];
        }

        boolean has(int t, int g) {
            return loadOf(t, g) > 0;
        }

        void copyLoads(int t, int[] row) {
            System.arraycopy(loads, t * MAX_GAMES, row, 0, MAX_GAMES);
        }

        void add(int g, int t, int x) {
            if (filled[g] < PLACES) {
                setAt(g, filled[g], t, x);
                filled[g]++;
            }
        }

        void remove(int g, int k) {
            loads[armAt(g, k) * MAX_GAMES + g] = 0;
            for (int i = k; i + 1 < filled[g]; i++) {
                setAt(g, i, armAt(g, i + 1), throwsAt(g, i + 1));
            }
            filled[g]--;
        }

        void change(int g, int k, int t, int x) {
            loads[armAt(g, k) * MAX_GAMES + g] = 0;
            setAt(g, k, t, x);
        }

        private void setAt(int g, int k, int t, int x) {
            whose[g * PLACES + k] = t;
            thrown[g * PLACES + k] = x;
            loads[t * MAX_GAMES + g] = x;
        }

        void emptyGame(int g) {
            for (int k = filled[g] - 1; k >= 0; k--) {
                remove(g, k);
            }
        }

        void empty() {
            for (int g = 0; g < MAX_GAMES; g++) {
                emptyGame(g);
            }
        }

        void saveTo(int[] memory, int at) {
            System.arraycopy(filled, 0, memory, at, MAX_GAMES);
            System.arraycopy(whose, 0, memory, at + MAX_GAMES, MAX_OUTINGS);
            System.arraycopy(thrown, 0, memory, at + MAX_GAMES + MAX_OUTINGS, MAX_OUTINGS);
        }

        void loadFrom(int[] memory, int at) {
            empty();
            for (int g = 0; g < MAX_GAMES; g++) {
                int count = memory[at + g];
                for (int k = 0; k < count && k < PLACES; k++) {
                    int from = at + MAX_GAMES + g * PLACES + k;
                    add(g, memory[from], memory[from + MAX_OUTINGS]);
                }
            }
        }
    }

    /** What follows from what is told and THE PLAN without asking what is ALLOWED. */
    private static final class Book {
        final Told told;
        final Plan plan;

        Book(Told told, Plan plan) {
            this.told = told;
            this.plan = plan;
        }

        int pointsOf(int t, int g) {
            int lefts = told.fact(g, LEFTS);
            int rights = BATTERS - lefts;
            int ahead = told.hands[t] == RIGHT ? rights - lefts : lefts - rights;
            return Math.max(0, told.trait(t, STRENGTH) + told.bounds[EDGE] * ahead);
        }

        int valueOf(int t, int g, int x) {
            int fresh = Math.min(x, told.trait(t, TIRES));
            int points = pointsOf(t, g);
            return points * fresh + points * (x - fresh) / 2;
        }

        int riskOf(int t, int x) {
            return told.trait(t, FRAIL) * Math.max(0, x - told.trait(t, TIRES));
        }

        int valueAt(int g, int k) {
            return valueOf(plan.armAt(g, k), g, plan.throwsAt(g, k));
        }

        int riskAt(int g, int k) {
            return riskOf(plan.armAt(g, k), plan.throwsAt(g, k));
        }

        int fullThrows(int t, int g) {
            return Math.min(told.trait(t, STAMINA), told.fact(g, NEED));
        }

        int leftIn(int g) {
            int left = told.fact(g, NEED);
            for (int k = 0; k < plan.filled[g]; k++) {
                left -= plan.throwsAt(g, k);
            }
            return left;
        }

        int valueOfGame(int g) {
            int sum = 0;
            for (int k = 0; k < plan.filled[g]; k++) {
                sum += valueAt(g, k);
            }
            return sum;
        }

        int allOutings() {
            int sum = 0;
            for (int g = 0; g < told.games; g++) {
                sum += plan.filled[g];
            }
            return sum;
        }

        int throwsOfArm(int t) {
            int sum = 0;
            for (int g = 0; g < told.games; g++) {
                sum += plan.loadOf(t, g);
            }
            return sum;
        }

        int outingsOfArm(int t) {
            int sum = 0;
            for (int g = 0; g < told.games; g++) {
                sum += plan.has(t, g) ? 1 : 0;
            }
            return sum;
        }

        int valueOfArm(int t) {
            int sum = 0;
            for (int g = 0; g < told.games; g++) {
                sum += valueOf(t, g, plan.loadOf(t, g));
            }
            return sum;
        }

        /** His throws in the 7 DAYS of which d is the last. */
        int weekOfArm(int t, int d) {
            int sum = 0;
            for (int g = 0; g < told.games; g++) {
                if (within(told.fact(g, DAY), d - WEEK_DAYS + 1, d)) {
                    sum += plan.loadOf(t, g);
                }
            }
            return sum;
        }
    }

    /**
     * The throws of one THROWER by GAMES, copied from THE PLAN: what is "as if" is written here,
     * never there. What he has in the GAME that is asked about never counts: an OUTING there
     * would be the one that is asked about.
     */
    private static final class Diary {
        private final Book book;
        private final int[] thrown = new int[MAX_GAMES];
        private int owner = 0;

        Diary(Book book) {
            this.book = book;
        }

        void open(int t) {
            owner = t;
            book.plan.copyLoads(t, thrown);
        }

        void write(int g, int x) {
            thrown[g] = x;
        }

        boolean allowsIn(int t, int g, int x) {
            open(t);
            return clashes(g, x) == 0;
        }

        boolean allowsAt(int g, int k) {
            return allowsIn(book.plan.armAt(g, k), g, book.plan.throwsAt(g, k));
        }

        boolean allowsMoved(int t, int from, int to, int x) {
            open(t);
            write(from, 0);
            return clashes(to, x) == 0;
        }

        int clashes(int g, int x) {
            int bits = 0;
            if (x > book.told.trait(owner, STAMINA)) {
                bits |= CLASH_STAMINA;
            }
            if (!isRested(g)) {
                bits |= CLASH_EARLIER;
            }
            if (book.told.restAfter(x) >= daysToNext(g)) {
                bits |= CLASH_LATER;
            }
            if (x > roomInWeek(g)) {
                bits |= CLASH_WEEK;
            }
            return bits;
        }

        /** MOST, as if the GAME needed some more. */
        int mostOf(int t, int g, int more) {
            if (book.plan.has(t, g) || book.plan.filled[g] >= PLACES) {
                return 0;
            }
            open(t);
            if (!isRested(g)) {
                return 0;
            }
            int high = Math.min(book.told.trait(t, STAMINA), book.leftIn(g) + more);
            int days = daysToNext(g);
            // more throws may need less rest, so every count is looked at
            for (int x = Math.min(high, roomInWeek(g)); x > 0; x--) {
                if (book.told.restAfter(x) < days) {
                    return x;
                }
            }
            return 0;
        }

        private boolean isRested(int g) {
            for (int h = 0; h < g; h++) {
                if (thrown[h] > 0 && book.told.daysFrom(h, g) <= book.told.restAfter(thrown[h])) {
                    return false;
                }
            }
            return true;
        }

        /** If the next one is far enough, so are all behind it. */
        private int daysToNext(int g) {
            for (int h = g + 1; h < book.told.games; h++) {
                if (thrown[h] > 0) {
                    return book.told.daysFrom(g, h);
                }
            }
            return UNBOUNDED;
        }

        /** Seven DAYS that begin with a GAME's are enough: others hold no more than these. */
        private int roomInWeek(int g) {
            int bound = book.told.bounds[WEEK];
            if (bound == 0) {
                return UNBOUNDED;
            }
            int heaviest = 0;
            for (int first = g; first >= 0; first--) {
                if (book.told.daysFrom(first, g) >= WEEK_DAYS) {
                    break;
                }
                heaviest = Math.max(heaviest, weekFrom(first, g));
            }
            return bound - heaviest;
        }

        private int weekFrom(int first, int without) {
            int sum = 0;
            for (int h = first; h < book.told.games; h++) {
                if (book.told.daysFrom(first, h) >= WEEK_DAYS) {
                    break;
                }
                sum += h == without ? 0 : thrown[h];
            }
            return sum;
        }
    }

    /** THE BEST of some GAMES. */
    private static final class Best {
        private final Book book;
        private final Diary diary;
        private int first = 0;
        private int count = 0;

        /** Bit m of a THROWER's: he may throw in all those of the GAMES that the bits of m name. */
        private final int[] fits = new int[MAX_ARMS];
        private final int[] given = new int[MAX_ARMS];
        private final int[] gains = new int[MAX_ARMS * MAX_BEST];

        /** The greatest sum of the GAMES from each one on, if those ahead had nobody. */
        private final int[] after = new int[MAX_BEST + 1];
        private final int[] trial = new int[MAX_BEST];
        final int[] row = new int[MAX_BEST];
        int sum = 0;

        Best(Book book, Diary diary) {
            this.book = book;
            this.diary = diary;
        }

        /** From the last GAME backwards: what the later ones can bring at most cuts the search. */
        void find(int g, int n) {
            first = g;
            count = Math.min(n, MAX_BEST);
            for (int t = 0; t < book.told.arms; t++) {
                prepare(t);
            }
            after[count] = 0;
            for (int from = count - 1; from >= 0; from--) {
                after[from] = UNBOUNDED * 100;
                sum = -1;
                search(from, 0);
                after[from] = sum;
            }
        }

        private void prepare(int t) {
            given[t] = 0;
            for (int i = 0; i < count; i++) {
                gains[t * MAX_BEST + i] = book.valueOf(t, first + i, book.fullThrows(t, first + i));
            }
            fits[t] = 1;
            diary.open(t);
            for (int set = 1; set < 1 << count; set++) {
                if (fitsTogether(t, set)) {
                    fits[t] |= 1 << set;
                }
            }
        }

        /** The others of a set are known to fit, so the last of it is the one to ask about. */
        private boolean fitsTogether(int t, int set) {
            int last = 0;
            for (int i = 0; i < count; i++) {
                boolean chosen = (set >>> i & 1) == 1;
                diary.write(first + i, chosen ? book.fullThrows(t, first + i) : 0);
                last = chosen ? i : last;
            }
            return mayHave(t, set ^ 1 << last)
                && diary.clashes(first + last, book.fullThrows(t, first + last)) == 0;
        }

        private boolean mayHave(int t, int set) {
            return (fits[t] >>> set & 1) == 1;
        }

        /** Rows come in their order, so that of like ones the first stays. */
        private void search(int i, int soFar) {
            if (soFar + after[i] <= sum) {
                return;
            }
            if (i >= count) {
                sum = soFar;
                System.arraycopy(trial, 0, row, 0, MAX_BEST);
                return;
            }
            for (int t = 0; t < book.told.arms; t++) {
                if (mayHave(t, given[t] | 1 << i)) {
                    given[t] |= 1 << i;
                    trial[i] = t;
                    search(i + 1, soFar + gains[t * MAX_BEST + i]);
                    given[t] ^= 1 << i;
                }
            }
            trial[i] = NOTHING;
            search(i + 1, soFar);
        }
    }

    /** Who of all THROWERS it is: for a PAIR, to FILL a GAME, in another one's place. */
    private static final class Chooser {
        private final Book book;
        private final Diary diary;
        int pairValue = NOTHING;
        int pairOne = NOTHING;
        int pairOther = NOTHING;
        private int growth = 0;
        private int changeGame = 0;
        private int changePlace = 0;
        private int changeArm = 0;

        Chooser(Book book, Diary diary) {
            this.book = book;
            this.diary = diary;
        }

        void choosePair(int g, int o) {
            pairValue = NOTHING;
            pairOne = NOTHING;
            pairOther = NOTHING;
            for (int one = 0; one < book.told.arms; one++) {
                int x = Math.min(o, book.fullThrows(one, g));
                if (x < book.told.fact(g, NEED) && diary.allowsIn(one, g, x)) {
                    chooseOther(g, one, x);
                }
            }
        }

        private void chooseOther(int g, int one, int x) {
            int left = book.told.fact(g, NEED) - x;
            for (int other = 0; other < book.told.arms; other++) {
                int y = Math.min(book.told.trait(other, STAMINA), left);
                int value = book.valueOf(one, g, x) + book.valueOf(other, g, y);
                if (other != one && value > pairValue && diary.allowsIn(other, g, y)) {
                    pairValue = value;
                    pairOne = one;
                    pairOther = other;
                }
            }
        }

        int fillGame(int g) {
            int came = 0;
            while (came < PLACES && addOuting(g)) {
                came++;
            }
            return came;
        }

        private boolean addOuting(int g) {
            int chosen = NONE;
            int throwsThen = 0;
            int greatest = -1;
            for (int t = 0; t < book.told.arms; t++) {
                int x = diary.mostOf(t, g, 0);
                if (x > 0 && book.valueOf(t, g, x) > greatest) {
                    greatest = book.valueOf(t, g, x);
                    chosen = t;
                    throwsThen = x;
                }
            }
            if (chosen == NONE) {
                return false;
            }
            book.plan.add(g, chosen, throwsThen);
            return true;
        }

        /** The one change of a THROWER by which an OUTING's VALUE grows most; false without one. */
        boolean changeBest() {
            growth = 0;
            for (int g = 0; g < book.told.games; g++) {
                for (int k = 0; k < book.plan.filled[g]; k++) {
                    weighChanges(g, k);
                }
            }
            if (growth == 0) {
                return false;
            }
            int x = book.plan.throwsAt(changeGame, changePlace);
            book.plan.change(changeGame, changePlace, changeArm, x);
            return true;
        }

        private void weighChanges(int g, int k) {
            int x = book.plan.throwsAt(g, k);
            int had = book.valueAt(g, k);
            for (int t = 0; t < book.told.arms; t++) {
                int grows = book.valueOf(t, g, x) - had;
                if (grows > growth && !book.plan.has(t, g) && diary.allowsIn(t, g, x)) {
                    growth = grows;
                    changeGame = g;
                    changePlace = k;
                    changeArm = t;
                }
            }
        }
    }

    /** A SEASON by a seed. */
    private static final class Season {
        private static final long FACTOR = 16807;
        private static final long MODULUS = 2147483647;

        private final Book book;

        /** The first DAY on which a THROWER isn't hurt any more. */
        private final int[] backOn = new int[MAX_ARMS];
        private long draw = 1;
        int hurts = 0;
        int who = 0;
        int missed = 0;
        int gained = 0;
        int firstGame = NOTHING;

        Season(Book book) {
            this.book = book;
        }

        void play(int seed) {
            for (int t = 0; t < MAX_ARMS; t++) {
                backOn[t] = 0;
            }
            draw = seed;
            hurts = 0;
            who = 0;
            missed = 0;
            gained = 0;
            firstGame = NOTHING;
            for (int g = 0; g < book.told.games; g++) {
                for (int k = 0; k < book.plan.filled[g]; k++) {
                    playOuting(g, k);
                }
            }
        }

        private void playOuting(int g, int k) {
            int t = book.plan.armAt(g, k);
            int day = book.told.fact(g, DAY);
            if (day < backOn[t]) {
                missed++;
                return;
            }
            gained += book.valueAt(g, k);
            draw = FACTOR * draw % MODULUS;
            if (draw % 1000 >= book.riskAt(g, k)) {
                return;
            }
            hurts++;
            who |= 1 << t;
            backOn[t] = day + book.told.bounds[OUT] + 1;
            if (firstGame == NOTHING) {
                firstGame = g;
            }
        }
    }

    /** What was ahead of the latest ACTS, in a ring: the eleventh takes the first one's place. */
    private static final class History {
        private static final int SAVED = Told.SAVED + Plan.SAVED;

        private final Told told;
        private final Plan plan;
        private final int[] memory = new int[MAX_ACTS * SAVED];
        private int next = 0;
        int count = 0;

        History(Told told, Plan plan) {
            this.told = told;
            this.plan = plan;
        }

        void keep() {
            told.saveTo(memory, next * SAVED);
            plan.saveTo(memory, next * SAVED + Told.SAVED);
            next = (next + 1) % MAX_ACTS;
            count = Math.min(count + 1, MAX_ACTS);
        }

        void goBack() {
            next = (next + MAX_ACTS - 1) % MAX_ACTS;
            count--;
            told.loadFrom(memory, next * SAVED);
            plan.loadFrom(memory, next * SAVED + Told.SAVED);
        }
    }
}
