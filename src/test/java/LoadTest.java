import java.lang.management.ManagementFactory;
import java.util.Random;

/** The dearest runs of 512 calls: they end soon, take little room, and no argument makes a call throw. */
public final class LoadTest {
    private static int wrong = 0;
    private static int calls = 0;

    private static void type(WhichWill x, String s) {
        calls += Telling.type(x, s);
    }

    private static String greatEstate() {
        StringBuilder b = new StringBuilder("land a seen 0 wed part tear wake lost house there;land b seen 0 part tear;land c seen 0 wake wed;land d seen 0 lost;");
        for (int i = 0; i < 8; i++) {
            b.append("person p").append((char) ('a' + i)).append(i == 0 ? " wife;" : " child;");
            b.append("thing t").append((char) ('a' + i)).append(" 9").append(97 + i).append(" in ").append((char) ('a' + i % 4)).append(';');
        }
        return b.append("money 99999;").toString();
    }

    private static String greatPaper(int n) {
        StringBuilder b = new StringBuilder("signed;");
        for (int i = 0; i < 4; i++) {
            b.append("give t").append((char) ('a' + (i + n) % 8)).append(" to p").append((char) ('a' + (i + 3 * n) % 8)).append(" if fact ").append(i % 3).append(';');
            b.append("pay ").append(30000 + 17 * i + n).append(" to p").append((char) ('a' + (i + n) % 8)).append(" if fact ").append((i + n) % 3).append(" not;");
        }
        b.append("rest to p").append((char) ('a' + n)).append(" and p").append((char) ('b' + n)).append(';');
        if (n > 0) {
            b.append("undo paper ").append(n - 1).append(';');
        }
        return b.toString();
    }

    private static void tellAll(WhichWill x) {
        type(x, greatEstate());
        x.estate();
        for (int i = 0; i < 4; i++) {
            type(x, greatPaper(i));
            if (x.paper() != i) {
                wrong++;
                System.out.println("paper " + i + " has a fault at " + x.fault(1));
            }
        }
        x.event(0, 0, 0, 9999, 0);
        x.event(2, 1, 0, 9999, 1);
        calls += 7;
    }

    private static void dearRun() {
        WhichWill x = new WhichWill();
        calls = 0;
        while (calls < 430) {
            tellAll(x);
            x.outcomes();
            x.ask();
            x.mend(3, 7, 7);
            x.surely(0);
            type(x, "0 0 0 0 0 0 0 0");
            x.settle();
            calls += 5;
        }
        while (calls < 507) {
            x.mend(calls % 4, calls % 8, calls / 8 % 8);
            calls++;
        }
        // The last of the 512 calls that an object serves answer as the first of another one's.
        WhichWill fresh = new WhichWill();
        tellAll(fresh);
        same("ways", x.ways(), 5760);
        same("outcomes", x.outcomes(), fresh.outcomes());
        same("ask", x.ask(), fresh.ask());
        same("sum", x.sum(7, 5759), fresh.sum(7, 5759));
        same("floor", x.floor(255), fresh.floor(255));
    }

    private static void same(String call, int got, int want) {
        if (got != want) {
            wrong++;
            System.out.println(call + " answered " + got + ", due is " + want);
        }
    }

    private static int any(Random r) {
        int[] some = {Integer.MIN_VALUE, Integer.MAX_VALUE, -1000000, -2, -1, 0, 1, 2, 3, 4, 7, 8, 31, 32, 255, 256, 5759, 5760, 9999, 10000};
        return r.nextInt(3) == 0 ? some[r.nextInt(some.length)] : r.nextInt(9) - 1;
    }

    private static void wildRun(Random r) {
        WhichWill x = new WhichWill();
        if (r.nextInt(4) > 0) {
            tellAll(x);
        }
        for (int i = 0; i < 200; i++) {
            switch (r.nextInt(36)) {
                case 0: x.feed(any(r), any(r), any(r), any(r), any(r)); break;
                case 1: x.end(any(r)); break;
                case 2: x.estate(); break;
                case 3: x.paper(); break;
                case 4: x.fault(any(r)); break;
                case 5: x.event(any(r), any(r), any(r), any(r), any(r)); break;
                case 6: x.told(any(r)); break;
                case 7: x.rule(any(r), any(r)); break;
                case 8: x.look(any(r), any(r)); break;
                case 9: x.orders(); break;
                case 10: x.item(any(r), any(r)); break;
                case 11: x.ahead(any(r), any(r)); break;
                case 12: x.law(any(r)); break;
                case 13: x.ring(any(r)); break;
                case 14: x.good(any(r), any(r)); break;
                case 15: x.counts(any(r), any(r)); break;
                case 16: x.undone(any(r), any(r), any(r)); break;
                case 17: x.ways(); break;
                case 18: x.goes(any(r), any(r)); break;
                case 19: x.how(any(r), any(r)); break;
                case 20: x.paid(any(r), any(r)); break;
                case 21: x.sum(any(r), any(r)); break;
                case 22: x.lack(any(r)); break;
                case 23: x.sure(any(r), r.nextBoolean()); break;
                case 24: x.surely(any(r)); break;
                case 25: x.hangs(any(r)); break;
                case 26: x.outcomes(); break;
                case 27: x.ask(); break;
                case 28: x.says(any(r), any(r), any(r)); break;
                case 29: x.tells(any(r), any(r), any(r)); break;
                case 30: x.stories(any(r)); break;
                case 31: x.gain(any(r)); break;
                case 32: x.settle(); break;
                case 33: x.floor(any(r)); break;
                case 34: x.mend(any(r), any(r), any(r)); break;
                default: x.count(any(r)); break;
            }
        }
    }

    public static void main(String[] args) {
        com.sun.management.ThreadMXBean threads = (com.sun.management.ThreadMXBean) ManagementFactory.getThreadMXBean();
        long id = Thread.currentThread().getId();
        dearRun();
        long before = threads.getThreadAllocatedBytes(id);
        long start = System.nanoTime();
        dearRun();
        long bytes = threads.getThreadAllocatedBytes(id) - before;
        System.out.println("a dear run: " + bytes + " bytes, " + (System.nanoTime() - start) / 1000000 + " ms");
        // 7.3 million fields and elements are some 29 million bytes; the texts typed here count too.
        if (bytes > 3000000) {
            wrong++;
            System.out.println("a dear run takes too much room");
        }
        Random r = new Random(7);
        for (int i = 0; i < 300; i++) {
            wildRun(r);
        }
        System.out.println(wrong == 0 ? "the load is borne" : wrong + " faults");
        if (wrong != 0) {
            System.exit(1);
        }
    }
}
