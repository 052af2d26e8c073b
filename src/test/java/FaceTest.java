import java.lang.reflect.Constructor;
import java.lang.reflect.Field;
import java.lang.reflect.Member;
import java.lang.reflect.Method;
import java.lang.reflect.Modifier;
import java.util.Set;
import java.util.TreeSet;

/** The public face is the document's, and nothing else can be seen from outside (rule 1). */
public final class FaceTest {
    private static final String[] METHODS = {
        "int feed(int,int,int,int,int)", "int text(int)", "int fault()", "int where()",
        "int about(int)", "int arm(int,int)", "int game(int,int)", "int rest(int)",
        "int outing(int,int,int)", "int value()", "int points(int,int)", "int worth(int,int,int)",
        "int most(int,int)", "int when(int,int,int)", "int ranked(int,int)", "int extra(int)",
        "int clash(int,int,int)", "int best(int,int)", "int bestOf(int,int,int)",
        "int pair(int,int,int)", "int breaches()", "int breach(int)", "int work(int,int)",
        "int busiest(int,int)", "int idle(int)", "int gap(int)", "int hands(int,boolean)",
        "int bare(int)", "int risk(int)", "long sound(int,int)", "int season(int,int)",
        "int span(int,int,int)", "int put(int,int,int,boolean)", "int take(int,int)",
        "int shift(int,int,int)", "boolean swap(int,int,int,int)", "int better()", "int fill(int)",
        "int fillAll()", "int laid(int,int)", "int become(int,int,int)", "int rule(int,int)",
        "int rests(int,int)", "int undo()", "int named(int)", "int size()", "int trouble()"
    };

    public static void main(String[] args) {
        Check.equal("NONE", ThrowArms.NONE, -1);
        Check.isTrue("the class is final", Modifier.isFinal(ThrowArms.class.getModifiers()));
        Set<String> due = new TreeSet<>(Set.of(METHODS));
        Set<String> names = new TreeSet<>();
        Set<String> found = new TreeSet<>();
        for (Method method : ThrowArms.class.getDeclaredMethods()) {
            if (Modifier.isPublic(method.getModifiers())) {
                found.add(form(method));
                names.add(method.getName());
            }
        }
        Check.isTrue("public methods: " + found, found.equals(due));
        checkHidden(names);
        checkFields();
        Constructor<?>[] constructors = ThrowArms.class.getDeclaredConstructors();
        Check.equal("constructors", constructors.length, 1);
        Check.isTrue("a public one", Modifier.isPublic(constructors[0].getModifiers()));
        Check.equal("its parameters", constructors[0].getParameterCount(), 0);
        Check.end();
    }

    private static String form(Method method) {
        StringBuilder text = new StringBuilder();
        text.append(method.getReturnType().getName()).append(' ').append(method.getName());
        text.append('(');
        String comma = "";
        for (Class<?> type : method.getParameterTypes()) {
            text.append(comma).append(type.getName());
            comma = ",";
        }
        return text.append(')').toString();
    }

    private static void checkHidden(Set<String> publicNames) {
        for (Method method : ThrowArms.class.getDeclaredMethods()) {
            if (!Modifier.isPublic(method.getModifiers()) && !method.isSynthetic()) {
                Check.isTrue(method + " is private", isPrivate(method));
                Check.isTrue(method + " has a name of its own",
                    !publicNames.contains(method.getName()));
            }
        }
        Class<?>[] inside = ThrowArms.class.getDeclaredClasses();
        Check.isTrue("few classes", inside.length < 12);
        for (Class<?> own : inside) {
            Check.isTrue(own + " is static", Modifier.isStatic(own.getModifiers()));
            Check.isTrue(own + " has few fields", own.getDeclaredFields().length <= 20);
            for (Method method : own.getDeclaredMethods()) {
                Check.isTrue(method + " has a name of its own",
                    !publicNames.contains(method.getName()));
            }
        }
    }

    private static void checkFields() {
        for (Field field : ThrowArms.class.getDeclaredFields()) {
            boolean isNone = field.getName().equals("NONE");
            Check.isTrue(field + " is as it should be", isNone || isPrivate(field));
            boolean fixed = Modifier.isFinal(field.getModifiers());
            Check.isTrue(field + " static means final",
                fixed || !Modifier.isStatic(field.getModifiers()));
        }
    }

    private static boolean isPrivate(Member member) {
        return Modifier.isPrivate(member.getModifiers());
    }
}
