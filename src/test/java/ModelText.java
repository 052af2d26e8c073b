import java.util.ArrayList;
import java.util.HashSet;
import java.util.List;
import java.util.Set;

/** The Model's reading of a TEXT: all TOKENS first, then a form for each kind of LINE. */
final class ModelText {
    /** A NAME: n, a hand: h, a WHOLE: 0. */
    private static final String[][] FORMS = {
        {"arm", "nh0000"}, {"game", "000"}, {"rest", "00"}, {"week", "0"}, {"edge", "0"},
        {"out", "0"}
    };

    private final String text;
    private final List<String> tokens = new ArrayList<>();
    private final List<Integer> places = new ArrayList<>();
    private final Model.World world = new Model.World();
    private final Set<String> once = new HashSet<>();
    int fault = 0;
    int place = -1;

    ModelText(String text) {
        this.text = text;
    }

    Model.World read() {
        split();
        int i = 0;
        while (fault == 0) {
            i = line(i);
            if (fault != 0) {
                break;
            }
            if (i == tokens.size()) {
                if (world.throwers.isEmpty() || world.games.isEmpty()) {
                    fail(i, 5);
                }
                break;
            }
            if (!tokens.get(i).equals(";")) {
                fail(i, 1);
            }
            i++;
        }
        return fault == 0 ? world : null;
    }

    private void fail(int token, int number) {
        if (fault == 0) {
            fault = number;
            place = token < places.size() ? places.get(token) : text.length();
        }
    }

    /** Letters, digits that stand together are one token, however many: the form refuses them. */
    private void split() {
        int i = 0;
        while (i < text.length()) {
            if (text.charAt(i) == ' ') {
                i++;
                continue;
            }
            int j = i + 1;
            while (j < text.length() && (alike(i, j, 'a', 'z') || alike(i, j, '0', '9'))) {
                j++;
            }
            tokens.add(text.substring(i, j));
            places.add(i);
            i = j;
        }
    }

    private boolean alike(int i, int j, char low, char high) {
        return text.charAt(i) >= low && text.charAt(i) <= high
            && text.charAt(j) >= low && text.charAt(j) <= high;
    }

    private String token(int i) {
        return i < tokens.size() ? tokens.get(i) : "";
    }

    /** Reads a LINE from token i on: the token behind it. */
    private int line(int i) {
        for (String[] form : FORMS) {
            if (!form[0].equals(token(i))) {
                continue;
            }
            headFaults(i);
            List<Integer> wholes = new ArrayList<>();
            for (int k = 0; k < form[1].length() && fault == 0; k++) {
                part(form[0], form[1].charAt(k), i + 1 + k, wholes);
            }
            if (fault == 0) {
                keep(i, wholes);
            }
            return i + 1 + form[1].length();
        }
        fail(i, 1);
        return i;
    }

    private void headFaults(int i) {
        String head = token(i);
        if (head.equals("week") || head.equals("edge") || head.equals("out")) {
            if (!once.add(head)) {
                fail(i, 3);
            }
        }
        if (head.equals("arm") && world.throwers.size() == 8
            || head.equals("game") && world.games.size() == 20
            || head.equals("rest") && world.rests.size() == 5) {
            fail(i, 4);
        }
    }

    private void part(String head, char kind, int i, List<Integer> wholes) {
        String token = token(i);
        if (kind == 'n') {
            if (!token.matches("[a-z]{1,7}") || Model.isReserved(token)) {
                fail(i, 1);
            }
            for (Model.Thrower t : world.throwers) {
                if (t.name.equals(token)) {
                    fail(i, 3);
                }
            }
        } else if (kind == 'h') {
            if (!token.equals("left") && !token.equals("right")) {
                fail(i, 1);
            }
        } else if (!token.matches("[0-9]{1,3}")) {
            fail(i, 1);
        } else {
            wholes.add(Integer.valueOf(token));
            if (!isWithin(head, wholes)) {
                fail(i, 2);
            }
        }
    }

    /** Whether the last of a LINE's WHOLES so far may be. */
    private boolean isWithin(String head, List<Integer> wholes) {
        int which = wholes.size() - 1;
        int x = wholes.get(which);
        switch (head) {
            case "arm":
                int tiresHigh = which == 2 ? wholes.get(1) : 0;
                return x >= new int[] {1, 1, 0, 0}[which]
                    && x <= new int[] {99, 120, tiresHigh, 9}[which];
            case "game":
                if (which == 0) {
                    int games = world.games.size();
                    return x <= 59 && (games == 0 || x > world.games.get(games - 1).day);
                }
                return which == 1 ? x <= 9 : x >= 1 && x <= 200;
            case "rest":
                if (which == 0) {
                    int rests = world.rests.size();
                    return x >= 1 && x <= 120 && (rests == 0 || x > world.rests.get(rests - 1)[0]);
                }
                return x <= 9;
            case "week":
                return x <= 500;
            case "edge":
                return x <= 9;
            default:
                return x >= 1 && x <= 60;
        }
    }

    private void keep(int i, List<Integer> wholes) {
        switch (token(i)) {
            case "arm":
                Model.Thrower t = new Model.Thrower();
                t.name = token(i + 1);
                t.right = token(i + 2).equals("right");
                t.strength = wholes.get(0);
                t.stamina = wholes.get(1);
                t.tires = wholes.get(2);
                t.frail = wholes.get(3);
                world.throwers.add(t);
                break;
            case "game":
                Model.Game g = new Model.Game();
                g.day = wholes.get(0);
                g.lefts = wholes.get(1);
                g.need = wholes.get(2);
                world.games.add(g);
                break;
            case "rest":
                world.rests.add(new int[] {wholes.get(0), wholes.get(1)});
                break;
            case "week":
                world.week = wholes.get(0);
                break;
            case "edge":
                world.edge = wholes.get(0);
                break;
            default:
                world.out = wholes.get(0);
                break;
        }
    }
}
