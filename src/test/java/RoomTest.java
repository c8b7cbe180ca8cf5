import java.lang.management.ManagementFactory;

/** All calls of one run live in one room: the dearest calls make no objects, a new object makes few. */
public final class RoomTest {
    private static final Check CHECK = new Check();

    private static long made() {
        com.sun.management.ThreadMXBean threads = (com.sun.management.ThreadMXBean) ManagementFactory.getThreadMXBean();
        return threads.getThreadAllocatedBytes(Thread.currentThread().getId());
    }

    private static String heaviest() {
        StringBuilder s = new StringBuilder();
        for (int i = 0; i < 6; i++) {
            s.append("trade ").append((char) ('a' + i)).append(" 0 ").append(i).append(';');
        }
        for (int i = 0; i < 12; i++) {
            s.append("turn ").append((char) ('a' + i % 6)).append(';');
        }
        for (int i = 0; i < 5; i++) {
            s.append("work ").append((char) ('a' + i)).append(" 0 0 1;");
        }
        return s + "slip 50;law length 24" + Check.times(10, "+hour") + ";law fame 1" + Check.times(9, "+date")
            + ";law will 0" + Check.times(10, "*date") + ";";
    }

    private static void callAll(DayOpeners x, String text) {
        Check.tell(x, text);
        x.note(60, 3, false);
        x.strike(0);
        x.best(6, 6);
        x.plan(6);
        x.ask(1, 0);
        x.hours(2);
        x.chance(1, 99, 0);
        x.tried(2, 1, 200);
        x.ahead(200, 4, 0);
        x.fair(11);
        x.pairs();
        x.power(5);
        x.even(63);
        x.rare();
        x.rest(0, 1, 3);
        x.sure(6, 0);
        x.appoint(1);
        x.put(1, 1);
        x.swap(0, 1);
        x.keep();
        x.go(200);
        x.back();
        x.undo();
        x.doneWhen(0);
        x.soon(0);
        x.out(0);
        x.missing(200);
        x.opener(200);
        x.longAt(200);
        x.law(0, 0);
        x.count(10);
        x.named(0, 1);
        Check.tell(x, "law");
    }

    public static void main(String[] args) {
        String text = heaviest();
        DayOpeners x = new DayOpeners();
        for (int i = 0; i < 3; i++) {
            callAll(x, text);
        }
        long before = made();
        for (int i = 0; i < 10; i++) {
            callAll(x, text);
        }
        long calls = made() - before;
        CHECK.due("bytes of objects made by calls, some are the compiler's: " + calls, calls < 20000, true);
        before = made();
        DayOpeners y = new DayOpeners();
        long object = made() - before;
        CHECK.due("bytes of a new object: " + object, object < 60000 && y.count(0) == 0, true);
        CHECK.ends();
    }
}
