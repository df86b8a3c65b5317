import com.sun.management.ThreadMXBean;
import java.lang.management.ManagementFactory;
import java.util.function.ToLongFunction;

/** What the dearest calls make: 512 of each on one object leave next to nothing, so that all live in one room. */
public final class RoomTest {
    private static final int CALLS = 512;
    private static final long BYTES_OF_CALLS = 200_000;
    private static final long BYTES_OF_OBJECT = 100_000;

    private static long sum = 0;

    public static void main(String[] args) {
        made();
        leaves("next", x -> x.next(3, 987654321012345L));
        leaves("after", x -> x.after(2, 3, 20));
        leaves("goes", x -> x.goes(0, 89));
        leaves("round", x -> x.round(3, 987654321012345L, 2));
        leaves("meet", x -> x.meet(0, 196, 887));
        leaves("waits", x -> x.waits(123456789));
        leaves("missed", x -> x.missed(123456789));
        leaves("slip", x -> x.slip(123456789, 1));
        leaves("lessons", x -> x.lessons(9));
        leaves("act", x -> x.act(5, 2, 7));
        leaves("image", x -> x.image() + x.restore());
        leaves("laws", x -> x.laws(0, 20));
        leaves("text", x -> x.text(1));
        leaves("copy", x -> x.copy(0, 0, 0, 5, 100));
        leaves("row", x -> x.row(2, 3, 160));
        leavesDear("source", x -> x.source(3, 999, -1));
        leavesDear("began", x -> x.began(1, 0, 3, -1));
        leavesDear("barren", x -> x.barren(5, 0, 9999));
        leavesDear("longest", x -> x.longest(2, 500));
        leavesDear("many", x -> x.many(2, 0, 499, 3));
        leavesDear("rounds", x -> x.rounds(2, 500));
        Due.holds("all were called", sum != 0);
        Due.end();
    }

    private static long bytes() {
        ThreadMXBean threads = (ThreadMXBean) ManagementFactory.getThreadMXBean();
        return threads.getThreadAllocatedBytes(Thread.currentThread().getId());
    }

    private static TurnedAbout prepared() {
        TurnedAbout x = new TurnedAbout();
        int[] kinds = {0, 1, 2, 3, 5, 6};
        for (int kind : kinds) {
            x.law(kind, 1);
        }
        x.write(5);
        x.row(0, 3, 160);
        Due.letters(x, 1, "base 9;value 4 1 3;write 7;go 0;base 1");
        return x;
    }

    private static void made() {
        prepared();
        long before = bytes();
        TurnedAbout x = new TurnedAbout();
        long made = bytes() - before;
        sum += x.status(2);
        Due.holds("a new object has " + made + " bytes", made < BYTES_OF_OBJECT);
    }

    private static void leaves(String name, ToLongFunction<TurnedAbout> call) {
        leaves(name, call, CALLS);
    }

    /** As many calls as show a row made anew in each. */
    private static void leavesDear(String name, ToLongFunction<TurnedAbout> call) {
        leaves(name, call, CALLS / 8);
    }

    private static void leaves(String name, ToLongFunction<TurnedAbout> call, int calls) {
        TurnedAbout x = prepared();
        sum += call.applyAsLong(x);
        long before = bytes();
        for (int i = 1; i < calls; i++) {
            sum += call.applyAsLong(x);
        }
        long made = bytes() - before;
        Due.holds(calls + " calls of " + name + " make " + made + " bytes", made * CALLS / calls < BYTES_OF_CALLS);
    }
}
