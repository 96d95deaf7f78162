import java.lang.management.ManagementFactory;

/** All calls of a run live in one room: the dearest calls make little, whatever is called 512 times. */
public final class RoomTest {
    private static final int CALLS = 512;
    private static final long MOST_BYTES = 200_000;

    public static void main(String[] args) {
        // The first round loads classes, which is not the calls' own.
        for (int round = 0; round < 2; round++) {
            for (int dear = 0; dear < 6; dear++) {
                long bytes = bytesOf(dear);
                if (round == 1 && bytes > MOST_BYTES) {
                    System.out.println("calls " + dear + " make " + bytes + " bytes");
                    System.exit(1);
                }
            }
        }
        System.out.println(CALLS + " of the dearest calls stay within " + MOST_BYTES + " bytes");
    }

    private static ThinAir full() {
        ThinAir x = new ThinAir();
        for (int p = 0; p < 8; p++) {
            x.place(5 * p, 20 + p, p % 2, p % 4);
        }
        for (int m = 0; m < 40; m++) {
            x.mark(m % 12, m % 8, 1000 + 37 * m % 50, m % 7, m % 4);
        }
        Due.write(x, 0, "W9,4H3,9T2F15S1:20");
        x.laws(0, 0);
        Due.write(x, 1, "vw60kdt");
        Due.write(x, 2, "vh40y0s3");
        return x;
    }

    private static long bytesOf(int dear) {
        com.sun.management.ThreadMXBean bean =
            (com.sun.management.ThreadMXBean) ManagementFactory.getThreadMXBean();
        ThinAir x = full();
        long before = bean.getThreadAllocatedBytes(Thread.currentThread().getId());
        for (int i = 0; i < CALLS; i++) {
            switch (dear) {
                case 0: x.gains(1, 2); break;
                case 1: x.crowd(1, 0, 0, 20); break;
                case 2: x.laws(0, 0); break;
                case 3: x.fault(1, true); break;
                case 4: x.row(0, 40); break;
                default: x.text(3, 40); break;
            }
        }
        return bean.getThreadAllocatedBytes(Thread.currentThread().getId()) - before;
    }
}
