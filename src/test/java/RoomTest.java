import com.sun.management.ThreadMXBean;
import java.lang.management.ManagementFactory;

/** What an object takes, and that calls take nothing more: all calls of a run live in one room. */
public final class RoomTest {
    private static final Check check = new Check("RoomTest");
    private static final ThreadMXBean MEMORY = (ThreadMXBean) ManagementFactory.getThreadMXBean();
    private static final int SLACK = 4096;

    public static void main(String[] args) {
        busy(new WhistleRoster());
        long from = taken();
        WhistleRoster x = new WhistleRoster();
        long made = taken() - from;
        check.due("an object takes less than 100,000 bytes: " + made, made < 100_000, true);
        from = taken();
        int calls = busy(x);
        long more = taken() - from;
        check.due("all calls an object is used for", calls <= 512 && calls > 400, true);
        check.due("calls take nothing: " + more, more < SLACK, true);
        check.close();
    }

    private static long taken() {
        return MEMORY.getThreadAllocatedBytes(Thread.currentThread().getId());
    }

    private static final byte[] TEXT = text();

    private static byte[] text() {
        StringBuilder text = new StringBuilder("field a;field b;road a b 30;club k;club l;most 4;rest 0;fee (grade+way)*need/(seat+1);");
        for (char c = 'a'; c < 'k'; c++) {
            text.append("one x").append(c).append(" 3 at a;");
        }
        for (int g = 0; g < 16; g++) {
            text.append("game k l at a on ").append(g / 4).append(' ').append(g % 4 * 50).append(" for 10 grade 3 by 3;");
        }
        while (text.length() % 20 != 0) {
            text.append(' ');
        }
        byte[] bytes = new byte[text.length()];
        for (int i = 0; i < bytes.length; i++) {
            bytes[i] = (byte) text.charAt(i);
        }
        return bytes;
    }

    private static int number(int at) {
        return TEXT[at] << 24 | TEXT[at + 1] << 16 | TEXT[at + 2] << 8 | TEXT[at + 3];
    }

    /** The dearest calls, again and again: how many calls it was. */
    private static int busy(WhistleRoster x) {
        int calls = 0;
        for (int week = 0; week < 3; week++) {
            for (int at = 0; at < TEXT.length; at += 20) {
                x.feed(number(at), number(at + 4), number(at + 8), number(at + 12), number(at + 16));
                calls++;
            }
            x.week();
            calls++;
            for (int i = 0; i < 6; i++) {
                x.crew(i, 0);
                x.fill();
                x.exchange(0);
                x.steps(i, 0, 0);
                x.undo();
                x.best(i, 2);
                x.able(i, 2);
                x.put(i, 0, i);
                x.drop(i, 0);
                x.fees(-1);
                x.unsound(-1);
                x.hub();
                x.toward(0, 1);
                x.trip(i, 0, 0);
                calls += 14;
            }
            x.fill();
            for (int d = 0; d < 8; d++) {
                x.play(d);
                x.review(2, 2);
                x.rank(d);
                calls += 3;
            }
            x.shelf(0, week % 2, 20);
            x.lay(0, 19, 9, week % 2 == 1);
            x.look(0, 19);
            calls += 4;
        }
        return calls;
    }
}
