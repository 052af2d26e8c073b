import java.math.BigInteger;
import java.util.ArrayDeque;
import java.util.ArrayList;
import java.util.Deque;
import java.util.HashSet;
import java.util.List;
import java.util.NoSuchElementException;
import java.util.Set;

/**
 * The document once more, written as slowly and as directly as its words allow, for ModelTest: all
 * that may happen is tried out on copies, nothing is kept twice, nothing is cut short.
 */
public final class Model {
    private static final Set<String> RESERVED =
        Set.of("arm", "left", "right", "game", "rest", "week", "edge", "out");

    static final class Thrower {
        String name;
        boolean right;
        int strength;
        int stamina;
        int tires;
        int frail;

        Thrower copy() {
            Thrower c = new Thrower();
            c.name = name;
            c.right = right;
            c.strength = strength;
            c.stamina = stamina;
            c.tires = tires;
            c.frail = frail;
            return c;
        }
    }

    static final class Game {
        int day;
        int lefts;
        int need;
        List<int[]> outings = new ArrayList<>();

        Game copy() {
            Game c = new Game();
            c.day = day;
            c.lefts = lefts;
            c.need = need;
            for (int[] o : outings) {
                c.outings.add(o.clone());
            }
            return c;
        }

        int left() {
            int sum = need;
            for (int[] o : outings) {
                sum -= o[1];
            }
            return sum;
        }

        boolean has(int t) {
            for (int[] o : outings) {
                if (o[0] == t) {
                    return true;
                }
            }
            return false;
        }
    }

    /** All that a TEXT tells, and THE PLAN. */
    static final class World {
        List<Thrower> throwers = new ArrayList<>();
        List<Game> games = new ArrayList<>();
        List<int[]> rests = new ArrayList<>();
        int week = 0;
        int edge = 0;
        int out = 15;

        World copy() {
            World c = new World();
            for (Thrower t : throwers) {
                c.throwers.add(t.copy());
            }
            for (Game g : games) {
                c.games.add(g.copy());
            }
            for (int[] r : rests) {
                c.rests.add(r.clone());
            }
            c.week = week;
            c.edge = edge;
            c.out = out;
            return c;
        }

        int rest(int x) {
            int days = 0;
            for (int[] r : rests) {
                if (r[0] <= x) {
                    days = r[1];
                }
            }
            return days;
        }

        int clash(int t, int g, int x) {
            int d = games.get(g).day;
            int[] byDay = new int[100];
            int bits = x > throwers.get(t).stamina ? 1 : 0;
            for (int h = 0; h < games.size(); h++) {
                for (int[] o : games.get(h).outings) {
                    if (o[0] != t || h == g) {
                        continue;
                    }
                    int e = games.get(h).day;
                    byDay[e + 10] += o[1];
                    if (e < d && !(d - e > rest(o[1]))) {
                        bits |= 2;
                    }
                    if (e > d && !(e - d > rest(x))) {
                        bits |= 4;
                    }
                }
            }
            byDay[d + 10] += x;
            for (int from = d - 6; from <= d; from++) {
                int sum = 0;
                for (int e = from; e < from + 7; e++) {
                    sum += byDay[e + 10];
                }
                if (week != 0 && sum > week) {
                    bits |= 8;
                }
            }
            return bits;
        }

        int points(int t, int g) {
            Thrower thrower = throwers.get(t);
            int same = thrower.right ? 9 - games.get(g).lefts : games.get(g).lefts;
            return Math.max(0, thrower.strength + edge * (same - (9 - same)));
        }

        int value(int t, int g, int x) {
            int twice = 0;
            for (int i = 1; i <= x; i++) {
                twice += i <= throwers.get(t).tires ? 2 * points(t, g) : points(t, g);
            }
            return Math.floorDiv(twice, 2);
        }

        int value(int g, int[] outing) {
            return value(outing[0], g, outing[1]);
        }

        int risk(int[] outing) {
            Thrower thrower = throwers.get(outing[0]);
            return outing[1] > thrower.tires ? thrower.frail * (outing[1] - thrower.tires) : 0;
        }

        int most(int t, int g, int more) {
            Game game = games.get(g);
            if (game.has(t) || game.outings.size() == 3) {
                return 0;
            }
            int greatest = 0;
            for (int x = 1; x <= throwers.get(t).stamina && x <= game.left() + more; x++) {
                if (clash(t, g, x) == 0) {
                    greatest = x;
                }
            }
            return greatest;
        }

        int full(int t, int g) {
            return Math.min(throwers.get(t).stamina, games.get(g).need);
        }

        int fill(int g) {
            int came = 0;
            while (games.get(g).outings.size() < 3) {
                int[] chosen = null;
                for (int t = throwers.size() - 1; t >= 0; t--) {
                    int[] o = {t, most(t, g, 0)};
                    if (o[1] > 0 && (chosen == null || value(g, o) >= value(g, chosen))) {
                        chosen = o;
                    }
                }
                if (chosen == null) {
                    break;
                }
                games.get(g).outings.add(chosen);
                came++;
            }
            return came;
        }

        /** The one change of better(), or null: GAME, place, THROWER. */
        int[] change() {
            int[] found = null;
            int most = 0;
            for (int g = 0; g < games.size(); g++) {
                for (int k = 0; k < games.get(g).outings.size(); k++) {
                    for (int t = 0; t < throwers.size(); t++) {
                        int[] o = games.get(g).outings.get(k);
                        int[] changed = {t, o[1]};
                        int grows = value(g, changed) - value(g, o);
                        if (!games.get(g).has(t) && clash(t, g, o[1]) == 0 && grows > most) {
                            most = grows;
                            found = new int[] {g, k, t};
                        }
                    }
                }
            }
            return found;
        }
    }

    private final StringBuilder tape = new StringBuilder();
    private World world = null;
    private final Deque<World> acts = new ArrayDeque<>();
    private int trouble = 0;
    private int fault = 0;
    private int where = -1;

    private int no(int number) {
        trouble = number;
        where = -1;
        return -1;
    }

    private int yes(int answer) {
        trouble = 0;
        where = -1;
        return answer;
    }

    private void act() {
        acts.addLast(world.copy());
        if (acts.size() > 10) {
            acts.removeFirst();
        }
    }

    private boolean noArm(int t) {
        return world == null || t < 0 || t >= world.throwers.size();
    }

    private boolean noGame(int g) {
        return world == null || g < 0 || g >= world.games.size();
    }

    private boolean noOuting(int g, int k) {
        return noGame(g) || k < 0 || k >= world.games.get(g).outings.size();
    }

    private static boolean not(int x, int low, int high) {
        return x < low || x > high;
    }

    private int[] at(int g, int k) {
        return world.games.get(g).outings.get(k);
    }

    // ---- texts

    public int feed(int a, int b, int c, int d, int e) {
        if (tape.length() > 780) {
            return -1;
        }
        for (int four : new int[] {a, b, c, d, e}) {
            tape.append((char) (four >> 24 & 255)).append((char) (four >> 16 & 255));
            tape.append((char) (four >> 8 & 255)).append((char) (four & 255));
        }
        return tape.length();
    }

    public int text(int n) {
        if (n < 0 || n > tape.length()) {
            return no(2);
        }
        ModelText reader = new ModelText(tape.substring(0, n));
        World read = reader.read();
        tape.setLength(0);
        fault = reader.fault;
        if (read == null) {
            no(4);
            where = reader.place;
            return -1;
        }
        world = read;
        acts.clear();
        return yes(world.games.size());
    }

    public int fault() {
        return fault;
    }

    public int where() {
        return where;
    }

    // ---- what is told

    public int about(int what) {
        if (world == null || not(what, 0, 7)) {
            return no(1);
        }
        int outings = 0;
        for (Game g : world.games) {
            outings += g.outings.size();
        }
        return yes(new int[] {world.throwers.size(), world.games.size(), outings, world.week,
            world.edge, world.out, world.rests.size(), acts.size()}[what]);
    }

    public int arm(int t, int what) {
        if (noArm(t) || not(what, 0, 7)) {
            return no(1);
        }
        int sum = 0;
        int count = 0;
        int value = 0;
        for (int g = 0; g < world.games.size(); g++) {
            for (int[] o : world.games.get(g).outings) {
                if (o[0] == t) {
                    sum += o[1];
                    count++;
                    value += world.value(g, o);
                }
            }
        }
        Thrower thrower = world.throwers.get(t);
        return yes(new int[] {thrower.right ? 1 : 0, thrower.strength, thrower.stamina,
            thrower.tires, thrower.frail, sum, count, value}[what]);
    }

    public int game(int g, int what) {
        if (noGame(g) || not(what, 0, 5)) {
            return no(1);
        }
        Game game = world.games.get(g);
        int value = 0;
        for (int[] o : game.outings) {
            value += world.value(g, o);
        }
        return yes(new int[] {game.day, game.lefts, game.need, game.outings.size(), game.left(),
            value}[what]);
    }

    public int rest(int x) {
        if (world == null) {
            return no(1);
        }
        return not(x, 0, 200) ? no(2) : yes(world.rest(x));
    }

    public int outing(int g, int k, int what) {
        if (noOuting(g, k) || not(what, 0, 4)) {
            return no(1);
        }
        int[] o = at(g, k);
        int allowed = world.clash(o[0], g, o[1]) == 0 ? 1 : 0;
        return yes(new int[] {o[0], o[1], world.value(g, o), world.risk(o), allowed}[what]);
    }

    public int value() {
        if (world == null) {
            return no(1);
        }
        int sum = 0;
        for (int t = 0; t < world.throwers.size(); t++) {
            sum += arm(t, 7);
        }
        return yes(sum);
    }

    // ---- who may

    public int points(int t, int g) {
        return noArm(t) || noGame(g) ? no(1) : yes(world.points(t, g));
    }

    public int worth(int t, int g, int x) {
        if (noArm(t) || noGame(g)) {
            return no(1);
        }
        return not(x, 0, 200) ? no(2) : yes(world.value(t, g, x));
    }

    public int most(int t, int g) {
        return noArm(t) || noGame(g) ? no(1) : yes(world.most(t, g, 0));
    }

    public int when(int t, int g, int x) {
        if (noArm(t) || noGame(g)) {
            return no(1);
        }
        if (not(x, 1, 120)) {
            return no(2);
        }
        int found = -2;
        for (int h = world.games.size() - 1; h >= g; h--) {
            if (world.most(t, h, 0) >= x) {
                found = h;
            }
        }
        return yes(found);
    }

    public int ranked(int g, int i) {
        if (noGame(g) || noArm(i)) {
            return no(1);
        }
        List<Integer> order = new ArrayList<>();
        for (int t = 0; t < world.throwers.size(); t++) {
            order.add(t);
        }
        order.sort((a, b) -> world.value(b, g, world.full(b, g))
            - world.value(a, g, world.full(a, g)));
        return yes(order.get(i));
    }

    public int extra(int g) {
        if (noGame(g)) {
            return no(1);
        }
        int sum = 0;
        for (int t = 0; t < world.throwers.size(); t++) {
            sum += world.most(t, g, 200);
        }
        return yes(sum);
    }

    public int clash(int t, int g, int x) {
        if (noArm(t) || noGame(g)) {
            return no(1);
        }
        return not(x, 1, 120) ? no(2) : yes(world.clash(t, g, x));
    }

    // ---- plans

    private int bestTrouble(int g, int n) {
        if (noGame(g)) {
            return 1;
        }
        if (not(n, 1, 5)) {
            return 2;
        }
        return noGame(g + n - 1) ? 1 : 0;
    }

    /** Every row is tried, the first one first; the sum stands behind the row. */
    private int[] bestRow(int g, int n) {
        int kinds = world.throwers.size() + 1;
        int all = 1;
        for (int i = 0; i < n; i++) {
            all *= kinds;
        }
        int[] best = null;
        World bare = world.copy();
        for (int i = 0; i < n; i++) {
            bare.games.get(g + i).outings.clear();
        }
        for (int number = 0; number < all; number++) {
            int[] row = new int[n + 1];
            int left = number;
            for (int i = n - 1; i >= 0; i--) {
                row[i] = left % kinds == kinds - 1 ? -2 : left % kinds;
                left /= kinds;
            }
            if (lays(bare, row, g, n) && (best == null || row[n] > best[n])) {
                best = row;
            }
        }
        return best;
    }

    /** Whether all of a row are ALLOWED when all of it is in THE PLAN; adds up its VALUES. */
    private static boolean lays(World bare, int[] row, int g, int n) {
        for (int i = 0; i < n; i++) {
            if (row[i] >= 0) {
                bare.games.get(g + i).outings.add(new int[] {row[i], bare.full(row[i], g + i)});
            }
        }
        boolean good = true;
        for (int i = 0; i < n; i++) {
            for (int[] o : bare.games.get(g + i).outings) {
                good = good && bare.clash(o[0], g + i, o[1]) == 0;
                row[n] += bare.value(g + i, o);
            }
        }
        for (int i = 0; i < n; i++) {
            bare.games.get(g + i).outings.clear();
        }
        return good;
    }

    public int best(int g, int n) {
        int number = bestTrouble(g, n);
        return number != 0 ? no(number) : yes(bestRow(g, n)[n]);
    }

    public int bestOf(int g, int n, int i) {
        int number = bestTrouble(g, n);
        if (number != 0) {
            return no(number);
        }
        return not(i, 0, n - 1) ? no(1) : yes(bestRow(g, n)[i]);
    }

    public int pair(int g, int o, int what) {
        if (noGame(g) || not(what, 0, 2)) {
            return no(1);
        }
        if (not(o, 1, 120)) {
            return no(2);
        }
        int[] found = {-2, -2, -2};
        World bare = world.copy();
        Game game = bare.games.get(g);
        game.outings.clear();
        for (int a = 0; a < world.throwers.size(); a++) {
            for (int b = 0; b < world.throwers.size(); b++) {
                int x = Math.min(Math.min(o, world.throwers.get(a).stamina), game.need);
                int y = Math.min(world.throwers.get(b).stamina, game.need - x);
                if (a == b || y <= 0 || bare.clash(a, g, x) != 0 || bare.clash(b, g, y) != 0) {
                    continue;
                }
                int sum = bare.value(a, g, x) + bare.value(b, g, y);
                if (sum > found[0]) {
                    found = new int[] {sum, a, b};
                }
            }
        }
        return yes(found[what]);
    }

    // ---- what isn't so

    private List<Integer> allBreaches() {
        List<Integer> all = new ArrayList<>();
        for (int g = 0; g < world.games.size(); g++) {
            for (int k = 0; k < world.games.get(g).outings.size(); k++) {
                if (outing(g, k, 4) == 0) {
                    all.add(3 * g + k);
                }
            }
        }
        return all;
    }

    public int breaches() {
        return world == null ? no(1) : yes(allBreaches().size());
    }

    public int breach(int k) {
        if (world == null || k < 0) {
            return no(1);
        }
        List<Integer> all = allBreaches();
        return yes(k < all.size() ? all.get(k) : -2);
    }

    private int[] days(int t) {
        int[] days = new int[60];
        for (Game g : world.games) {
            for (int[] o : g.outings) {
                days[g.day] += o[0] == t ? o[1] : 0;
            }
        }
        return days;
    }

    public int work(int t, int d) {
        if (noArm(t)) {
            return no(1);
        }
        if (not(d, 0, 59)) {
            return no(2);
        }
        int sum = 0;
        for (int e = Math.max(0, d - 6); e <= d; e++) {
            sum += days(t)[e];
        }
        return yes(sum);
    }

    public int busiest(int t, int what) {
        if (noArm(t) || not(what, 0, 1)) {
            return no(1);
        }
        int greatest = 0;
        for (int d = 0; d < 60; d++) {
            greatest = Math.max(greatest, work(t, d));
        }
        int day = 0;
        while (work(t, day) < greatest) {
            day++;
        }
        return yes(what == 0 ? greatest : day);
    }

    public int idle(int t) {
        if (noArm(t)) {
            return no(1);
        }
        int run = 0;
        int longest = 0;
        for (int thrown : days(t)) {
            run = thrown > 0 ? 0 : run + 1;
            longest = Math.max(longest, run);
        }
        return yes(longest);
    }

    public int gap(int t) {
        if (noArm(t)) {
            return no(1);
        }
        int[] days = days(t);
        int fewest = -2;
        for (int d = 0; d < 60; d++) {
            for (int e = d + 1; e < 60; e++) {
                if (days[d] > 0 && days[e] > 0 && (fewest == -2 || e - d < fewest)) {
                    fewest = e - d;
                }
            }
        }
        return yes(fewest);
    }

    public int hands(int g, boolean right) {
        if (noGame(g)) {
            return no(1);
        }
        int sum = 0;
        for (int[] o : world.games.get(g).outings) {
            sum += world.throwers.get(o[0]).right == right ? o[1] : 0;
        }
        return yes(sum);
    }

    public int bare(int k) {
        if (world == null || k < 0) {
            return no(1);
        }
        List<Integer> all = new ArrayList<>();
        for (int g = 0; g < world.games.size(); g++) {
            if (world.games.get(g).outings.isEmpty()) {
                all.add(g);
            }
        }
        return yes(k < all.size() ? all.get(k) : -2);
    }

    // ---- who is hurt

    private List<int[]> outingsOf(int t) {
        List<int[]> all = new ArrayList<>();
        for (Game g : world.games) {
            for (int[] o : g.outings) {
                if (o[0] == t) {
                    all.add(o);
                }
            }
        }
        return all;
    }

    public int risk(int t) {
        if (noArm(t)) {
            return no(1);
        }
        int sum = 0;
        for (int[] o : outingsOf(t)) {
            sum += world.risk(o);
        }
        return yes(sum);
    }

    public long sound(int t, int what) {
        if (noArm(t) || not(what, 0, 1)) {
            return no(1);
        }
        if (outingsOf(t).size() > 6) {
            return no(5);
        }
        BigInteger above = BigInteger.ONE;
        BigInteger below = BigInteger.ONE;
        for (int[] o : outingsOf(t)) {
            above = above.multiply(BigInteger.valueOf(Math.max(0, 1000 - world.risk(o))));
            below = below.multiply(BigInteger.valueOf(1000));
        }
        BigInteger common = above.gcd(below);
        yes(0);
        return (what == 0 ? above : below).divide(common).longValueExact();
    }

    private int[] play(int seed) {
        int[] result = {0, 0, 0, 0, -2};
        BigInteger x = BigInteger.valueOf(seed);
        Set<String> hurt = new HashSet<>();
        for (int g = 0; g < world.games.size(); g++) {
            int day = world.games.get(g).day;
            for (int[] o : world.games.get(g).outings) {
                if (hurt.contains(o[0] + " on " + day)) {
                    result[2]++;
                    continue;
                }
                result[3] += world.value(g, o);
                x = x.multiply(BigInteger.valueOf(16807)).mod(BigInteger.valueOf(2147483647));
                if (x.mod(BigInteger.valueOf(1000)).intValue() < world.risk(o)) {
                    result[0]++;
                    result[1] |= 1 << o[0];
                    result[4] = result[4] == -2 ? g : result[4];
                    for (int i = 1; i <= world.out; i++) {
                        hurt.add(o[0] + " on " + (day + i));
                    }
                }
            }
        }
        return result;
    }

    public int season(int seed, int what) {
        if (world == null || not(what, 0, 4)) {
            return no(1);
        }
        return not(seed, 1, 2147483646) ? no(2) : yes(play(seed)[what]);
    }

    public int span(int seed, int n, int what) {
        if (world == null || not(what, 0, 2)) {
            return no(1);
        }
        if (not(n, 1, 100) || seed < 1 || (long) seed + n - 1 > 2147483646L) {
            return no(2);
        }
        int none = 0;
        int least = play(seed)[3];
        int greatest = least;
        for (int i = 0; i < n; i++) {
            int[] result = play(seed + i);
            none += result[0] == 0 ? 1 : 0;
            least = Math.min(least, result[3]);
            greatest = Math.max(greatest, result[3]);
        }
        return yes(new int[] {none, least, greatest}[what]);
    }

    // ---- acts

    public int put(int g, int t, int x, boolean forced) {
        if (noGame(g) || noArm(t)) {
            return no(1);
        }
        if (not(x, 1, world.throwers.get(t).stamina)) {
            return no(2);
        }
        Game game = world.games.get(g);
        if (game.outings.size() == 3 || x > game.left()) {
            return no(3);
        }
        if (game.has(t) || world.clash(t, g, x) != 0 && !forced) {
            return no(5);
        }
        act();
        game.outings.add(new int[] {t, x});
        return yes(game.outings.size());
    }

    public int take(int g, int k) {
        if (noOuting(g, k)) {
            return no(1);
        }
        act();
        return yes(world.games.get(g).outings.remove(k)[1]);
    }

    public int shift(int g, int k, int x) {
        if (noOuting(g, k)) {
            return no(1);
        }
        int[] o = at(g, k);
        if (not(x, 1, world.throwers.get(o[0]).stamina)) {
            return no(2);
        }
        if (world.games.get(g).left() + o[1] - x < 0) {
            return no(3);
        }
        if (world.clash(o[0], g, x) != 0) {
            return no(5);
        }
        act();
        int had = o[1];
        o[1] = x;
        return yes(had);
    }

    public boolean swap(int g, int k, int h, int j) {
        if (noOuting(g, k) || noOuting(h, j)) {
            no(1);
            return false;
        }
        int a = at(g, k)[0];
        int b = at(h, j)[0];
        if (g == h || world.games.get(h).has(a) || world.games.get(g).has(b)) {
            no(5);
            return false;
        }
        World ahead = world.copy();
        at(g, k)[0] = b;
        at(h, j)[0] = a;
        if (outing(g, k, 4) == 0 || outing(h, j, 4) == 0) {
            world = ahead;
            no(5);
            return false;
        }
        World then = world;
        world = ahead;
        act();
        world = then;
        yes(0);
        return true;
    }

    public int better() {
        if (world == null) {
            return no(1);
        }
        act();
        int changes = 0;
        int[] change = world.change();
        while (change != null && changes < 99) {
            at(change[0], change[1])[0] = change[2];
            changes++;
            change = world.change();
        }
        return yes(changes);
    }

    public int fill(int g) {
        if (noGame(g)) {
            return no(1);
        }
        act();
        return yes(world.fill(g));
    }

    public int fillAll() {
        if (world == null) {
            return no(1);
        }
        act();
        int came = 0;
        for (int g = 0; g < world.games.size(); g++) {
            came += world.fill(g);
        }
        return yes(came);
    }

    public int laid(int g, int n) {
        int number = bestTrouble(g, n);
        if (number != 0) {
            return no(number);
        }
        int[] row = bestRow(g, n);
        act();
        for (int i = 0; i < n; i++) {
            world.games.get(g + i).outings.clear();
            if (row[i] >= 0) {
                int[] o = {row[i], world.full(row[i], g + i)};
                world.games.get(g + i).outings.add(o);
            }
        }
        return yes(row[n]);
    }

    public int become(int t, int what, int v) {
        if (noArm(t) || not(what, 0, 3)) {
            return no(1);
        }
        Thrower thrower = world.throwers.get(t);
        int low = what < 2 ? 1 : 0;
        if (not(v, low, new int[] {99, 120, thrower.stamina, 9}[what])) {
            return no(2);
        }
        act();
        int[] was = {thrower.strength, thrower.stamina, thrower.tires, thrower.frail};
        if (what == 0) {
            thrower.strength = v;
        } else if (what == 1) {
            thrower.stamina = v;
            thrower.tires = Math.min(v, thrower.tires);
        } else if (what == 2) {
            thrower.tires = v;
        } else {
            thrower.frail = v;
        }
        return yes(was[what]);
    }

    public int rule(int what, int v) {
        if (world == null || not(what, 0, 2)) {
            return no(1);
        }
        if (what == 0 && not(v, 0, 500) || what == 1 && not(v, 0, 9)
            || what == 2 && not(v, 1, 60)) {
            return no(2);
        }
        act();
        int was = about(3 + what);
        world.week = what == 0 ? v : world.week;
        world.edge = what == 1 ? v : world.edge;
        world.out = what == 2 ? v : world.out;
        return yes(was);
    }

    public int rests(int i, int v) {
        if (world == null || not(i, 0, world.rests.size() - 1)) {
            return no(1);
        }
        if (not(v, 0, 9)) {
            return no(2);
        }
        act();
        int was = world.rests.get(i)[1];
        world.rests.get(i)[1] = v;
        return yes(was);
    }

    public int undo() {
        if (world == null) {
            return no(1);
        }
        if (acts.isEmpty()) {
            return no(5);
        }
        world = acts.removeLast();
        return yes(acts.size());
    }

    // ---- names

    public int named(int n) throws NoSuchElementException {
        if (world != null && n >= 0 && n <= tape.length()) {
            String name = tape.substring(0, n).replaceAll("^ +", "").replaceAll(" +$", "");
            for (int t = 0; t < world.throwers.size(); t++) {
                if (world.throwers.get(t).name.equals(name)) {
                    return t;
                }
            }
        }
        throw new NoSuchElementException("none such");
    }

    public int size() {
        return tape.length();
    }

    public int trouble() {
        return trouble;
    }

    static boolean isReserved(String word) {
        return RESERVED.contains(word);
    }
}
