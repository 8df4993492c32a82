import java.lang.management.ManagementFactory;

/**
 * The room: an object with 512 of the dearest calls stays far below 7.3 million fields and elements.
 * What the machine counts is bytes: no element of the class has more than 8.
 */
public final class RoomTest {
    private static final long BYTES_MOST = 2_000_000;

    private static void type(LinearTruths x, String text) {
        x.clear();
        for (int i = 0; i < text.length(); i += 8) {
            long bytes = 0;
            int n = Math.min(8, text.length() - i);
            for (int k = 0; k < n; k++) bytes |= (long) text.charAt(i + k) << (8 * k);
            x.type(bytes, n);
        }
    }

    private static void run(String text) {
        LinearTruths x = new LinearTruths();
        type(x, text);
        for (int k = 0; k < 48; k++) {
            x.read();
            x.decide();
            x.frees();
            x.write();
            x.out(k);
            x.not();
            x.told(3);
            x.free();
            x.value(k % 8, k, 1);
            x.frees();
        }
    }

    public static void main(String[] args) {
        com.sun.management.ThreadMXBean counter = (com.sun.management.ThreadMXBean) ManagementFactory.getThreadMXBean();
        long thread = Thread.currentThread().getId();
        String thick = "Ea.Eb.Ec.(c>e&c<b&b>a&c+a>b&c>h)";
        String[] texts = {
            "T", thick,
            thick + "->" + thick.replace('c', 'd') + "->" + thick.replace('c', 'f') + "->" + thick.replace('c', 'g')
                    + "->" + thick.replace('a', 'd') + "->" + thick.replace('a', 'f') + "->" + thick.replace('a', 'g'),
            "Ea.Eb.(76a-86b+109c-79d+109e+80f+114g+85h>1&113a-92b+89c+77d+78e+108f+112g+92h<1&87a-82b-86c+99d-89e"
                    + "+91f-92g+115h<1&81a+94b+93c-112d-112e+84f-112g-88h>1&105a+103b-83c+91d+95e-108f+111g+114h>1"
                    + "&97a-91b+104c-113d-80e-99f+100g-110h>1)"};
        boolean good = true;
        for (String text : texts) {
            run(text);
            long before = counter.getThreadAllocatedBytes(thread);
            run(text);
            long bytes = counter.getThreadAllocatedBytes(thread) - before;
            System.out.println("room: " + bytes + " bytes for a run with " + text.length() + " bytes of text");
            good &= bytes < BYTES_MOST;
        }
        if (!good) System.exit(1);
    }
}
