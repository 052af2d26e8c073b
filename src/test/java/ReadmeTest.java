import java.io.IOException;
import java.lang.reflect.Method;
import java.nio.file.Files;
import java.nio.file.Path;
import java.util.List;

/** README.md names every call of the face, and its example answers what it says. */
public final class ReadmeTest {
    private static final Path PAGE = Path.of("README.md");
    private static final Path OWN = Path.of("src/test/java/ReadmeTest.java");

    public static void main(String[] args) throws IOException {
        example();
        List<String> page = Files.readAllLines(PAGE);
        callsAreNamed(String.join("\n", page));
        exampleIsThis(page, Files.readAllLines(OWN));
        Check.end();
    }

    private static void example() {
        ThrowArms arms = new ThrowArms();
        String text = "arm ann left 50 60 40 2; arm bob right 41 100 80 0;"
            + "game 0 3 90; game 2 9 50; rest 20 1; rest 50 3; week 100; edge 2";
        feed(arms, text);
        int games = arms.text(text.length());           // 2: GAMES 0 and 1
        int most = arms.most(0, 0);                     // 60: so much ann may throw in GAME 0
        int first = arms.put(0, 0, most, false);        // 1: GAME 0 has one OUTING
        int worth = arms.value();                       // 2200
        int again = arms.put(1, 0, 10, false);          // -1: refused
        int why = arms.trouble();                       // 5: not so
        int because = arms.clash(0, 1, 10);             // 2: she still rests from GAME 0
        int nextGame = arms.when(0, 0, 10);             // -2: there is no GAME for her
        int came = arms.fillAll();                      // 2: bob throws in both
        int left = arms.undo();                         // 1: that is gone, the put() still can be undone
        feed(arms, "bob");
        int bob = arms.named(3);                        // 1: THROWER 1
        int[] got = {games, most, first, worth, again, why, because, nextGame, came, left, bob};
        int[] due = {2, 60, 1, 2200, -1, 5, 2, -2, 2, 1, 1};
        for (int i = 0; i < due.length; i++) {
            Check.equal("answer " + i + " of the example", got[i], due[i]);
        }
    }

    static void feed(ThrowArms arms, String text) {
        int[] five = new int[5];
        for (int i = 0; i < text.length(); i += 20) {
            for (int j = 0; j < 20; j++) {
                int sign = i + j < text.length() ? text.charAt(i + j) : ' ';
                five[j / 4] = five[j / 4] << 8 | sign;
            }
            arms.feed(five[0], five[1], five[2], five[3], five[4]);
        }
    }

    private static void callsAreNamed(String page) {
        for (Method method : ThrowArms.class.getMethods()) {
            if (method.getDeclaringClass() == ThrowArms.class) {
                String call = "`" + method.getName() + "(";
                Check.isTrue("README.md tells " + method.getName(), page.contains(call));
            }
        }
        for (String word : new String[] {"`NONE`", "-2", "NoSuchElementException", "512", ".ci/run"}) {
            Check.isTrue("README.md tells " + word, page.contains(word));
        }
    }

    /** Every line of the page's Java stands in this file, so that what is run is what is told. */
    private static void exampleIsThis(List<String> page, List<String> own) {
        boolean inJava = false;
        int lines = 0;
        for (String line : page) {
            if (line.startsWith("```")) {
                inJava = line.equals("```java");
                continue;
            }
            if (inJava) {
                lines++;
                boolean found = own.contains("        " + line) || own.contains("    " + line);
                Check.isTrue("ReadmeTest runs: " + line, found);
            }
        }
        Check.isTrue("the page has an example", lines > 20);
    }
}
