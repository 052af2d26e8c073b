import java.lang.management.ManagementFactory;

/** All calls of a run live in one room: after the constructor the dearest calls make nothing. */
public final class RoomTest {
    private static final int CALLS = 512;
    private static final long FEW_BYTES = 200000;

    public static void main(String[] args) {
        com.sun.management.ThreadMXBean threads =
            (com.sun.management.ThreadMXBean) ManagementFactory.getThreadMXBean();
        long thread = Thread.currentThread().getId();
        ThrowArms warm = crowded();
        dearest(warm, CALLS);
        ThrowArms arms = crowded();
        long ahead = threads.getThreadAllocatedBytes(thread);
        dearest(arms, CALLS);
        long made = threads.getThreadAllocatedBytes(thread) - ahead;
        System.out.println(CALLS + " calls made " + made + " bytes");
        Check.isTrue("calls make nothing", made < FEW_BYTES);
        ahead = threads.getThreadAllocatedBytes(thread);
        new ThrowArms();
        made = threads.getThreadAllocatedBytes(thread) - ahead;
        System.out.println("an object has " + made + " bytes");
        Check.isTrue("an object is small", made < 40000);
        Check.end();
    }

    /** Eight throwers, twenty games, five rests. */
    private static ThrowArms crowded() {
        StringBuilder text = new StringBuilder("week 150;edge 3;out 9");
        for (int t = 0; t < 8; t++) {
            text.append(";arm ").append((char) ('a' + t)).append(t % 2 == 0 ? " left " : " right ");
            text.append(40 + t).append(" 110 60 9");
        }
        for (int g = 0; g < 20; g++) {
            text.append(";game ").append(g).append(' ').append(g % 10).append(" 200");
        }
        text.append(";rest 10 1;rest 30 2;rest 50 3;rest 70 4;rest 90 5");
        return Check.told(text.toString());
    }

    private static void dearest(ThrowArms arms, int calls) {
        for (int i = 0; i < calls; i++) {
            switch (i % 16) {
                case 0: arms.fillAll(); break;
                case 1: arms.better(); break;
                case 2: arms.laid(i % 16, 5); break;
                case 3: arms.best(i % 15, 5); break;
                case 4: arms.bestOf(i % 14, 5, 2); break;
                case 5: arms.span(i + 1, 100, 1); break;
                case 6: arms.season(i + 1, 3); break;
                case 7: arms.pair(i % 20, 50, 0); break;
                case 8: arms.undo(); break;
                case 9: arms.sound(i % 8, 0); break;
                case 10: arms.breaches(); break;
                case 11: arms.busiest(i % 8, 1); break;
                case 12: arms.feed(i, i, i, i, i); break;
                case 13: arms.text(arms.size()); break;
                case 14: arms.rests(i % 5, i % 10); break;
                default: arms.put(i % 20, i % 8, 60, true); break;
            }
        }
    }
}
