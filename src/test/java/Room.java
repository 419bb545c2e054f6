import java.lang.management.ManagementFactory;

/** What a run makes: all of it in the constructor, nothing in a call. */
public final class Room {
    private static final Check CHECK = new Check("Room");
    private static final com.sun.management.ThreadMXBean THREADS =
        (com.sun.management.ThreadMXBean) ManagementFactory.getThreadMXBean();
    private static final int MOST_BYTES_OF_A_DESK = 16_000;

    private static int sum = 0;

    public static void main(String[] args) {
        measure();
        long[] bytes = measure();
        CHECK.due("a new desk is small (1)", bytes[0] <= MOST_BYTES_OF_A_DESK ? 1 : 0, 1);
        CHECK.due("bytes that calls make", bytes[1], 0);
        System.out.println("a new desk: " + bytes[0] + " bytes; " + (sum == 0 ? "" : "used"));
        CHECK.end();
    }

    private static long bytesNow() {
        return THREADS.getThreadAllocatedBytes(Thread.currentThread().getId());
    }

    private static long[] measure() {
        String text = "n6;rabcdef;rbcdefa;rcdefab;rdefabc;refabcd;rfabcde;rfedcba;racebdf;rbdface;";
        long start = bytesNow();
        MotionDesk desk = new MotionDesk();
        long made = bytesNow();
        for (int round = 0; round < 5; round++) {
            for (int i = 0; i < text.length(); i++) {
                sum += desk.type(text.charAt(i));
            }
            sum += desk.desk();
            for (int k = 0; k < 8; k++) {
                allCalls(desk, k);
            }
        }
        long end = bytesNow();
        return new long[] {made - start, end - made};
    }

    private static void allCalls(MotionDesk desk, int k) {
        sum += desk.ranking(k, k) + desk.node(k, k) + desk.votes(k, 0) + desk.now(k);
        sum += desk.ranks(k, 1) + desk.swaps(k) + desk.sets(k * 99) + desk.undo() + desk.order(k, k);
        sum += desk.reach(k, k % 2, 0) + desk.better(k, k % 2, 0) + desk.won(k, k % 2, 0) + desk.odds(k, 1, k % 2, 0);
        sum += desk.sees(k, k % 2) + desk.rankings(0) + desk.watch() + desk.forget();
        sum += desk.keep(k % 2) + desk.back(k % 2) + desk.count(k) + desk.type(300) + desk.clear();
    }
}
