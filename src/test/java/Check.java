import java.util.NoSuchElementException;

/** What the tests share: counting, comparing, and putting a text on THE TAPE. */
final class Check {
    private static int done = 0;
    private static int wrong = 0;

    private Check() {
    }

    static void equal(String what, long got, long due) {
        done++;
        if (got != due) {
            wrong++;
            System.out.println(what + " answered " + got + ", due is " + due);
        }
    }

    static void isTrue(String what, boolean holds) {
        done++;
        if (!holds) {
            wrong++;
            System.out.println("not so: " + what);
        }
    }

    /** A call that was refused with a number. */
    static void refused(String what, ThrowArms arms, long got, int number) {
        equal(what, got, ThrowArms.NONE);
        equal("trouble() of " + what, arms.trouble(), number);
        equal("where() of " + what, arms.where(), ThrowArms.NONE);
    }

    /** A call that wasn't refused. */
    static void answered(String what, ThrowArms arms, long got, long due) {
        equal(what, got, due);
        equal("trouble() of " + what, arms.trouble(), 0);
        equal("where() of " + what, arms.where(), ThrowArms.NONE);
    }

    static void notNamed(String what, ThrowArms arms, int n) {
        done++;
        try {
            int got = arms.named(n);
            wrong++;
            System.out.println(what + ": named(" + n + ") answered " + got + ", due is a throw");
        } catch (NoSuchElementException asDue) {
            return;
        }
    }

    /** Feeds as many bytes as the text has, and blanks up to a multiple of twenty. */
    static int feed(ThrowArms arms, String text) {
        int[] five = new int[5];
        int size = arms.size();
        for (int i = 0; i < text.length(); i += 20) {
            for (int j = 0; j < 20; j++) {
                int sign = i + j < text.length() ? text.charAt(i + j) : ' ';
                five[j / 4] = five[j / 4] << 8 | sign & 255;
            }
            size = arms.feed(five[0], five[1], five[2], five[3], five[4]);
        }
        return size;
    }

    /** The text alone is on THE TAPE and told. */
    static int tell(ThrowArms arms, String text) {
        feed(arms, text);
        return arms.text(text.length());
    }

    static ThrowArms told(String text) {
        ThrowArms arms = new ThrowArms();
        tell(arms, text);
        equal("trouble() of text " + text, arms.trouble(), 0);
        return arms;
    }

    static void end() {
        System.out.println(done + " checks, " + wrong + " wrong");
        if (wrong != 0) {
            System.exit(1);
        }
    }
}
