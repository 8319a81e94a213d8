import java.lang.management.ManagementFactory;

/** All calls of a run share one room of 7.3 million elements: a new object takes little, a call nothing. */
public final class RoomTest {
    private static final long BYTES_OF_NEW_OBJECT = 200000;
    // What asking for the count itself may take.
    private static final long BYTES_OF_CALLS = 2000;

    private static final com.sun.management.ThreadMXBean THREADS =
            (com.sun.management.ThreadMXBean) ManagementFactory.getThreadMXBean();

    public static void main(String[] args) {
        useEverything(new RegularSequences());
        long before = bytes();
        RegularSequences x = new RegularSequences();
        long made = bytes() - before;
        Checks.due("a new object takes " + made + " bytes", made < BYTES_OF_NEW_OBJECT ? 1 : 0, 1);
        before = bytes();
        useEverything(x);
        made = bytes() - before;
        Checks.due("the calls take " + made + " bytes", made < BYTES_OF_CALLS ? 1 : 0, 1);
        Checks.finish();
    }

    private static long bytes() {
        return THREADS.getCurrentThreadAllocatedBytes();
    }

    private static void useEverything(RegularSequences x) {
        x.setBase(4);
        x.define(0, 8);
        x.setRow(0, 1, 2);
        x.setColumn(0, 1, 2);
        x.setEntry(0, 1, 1, 1, 1);
        x.clear(0);
        x.randomize(0, 8, 1);
        x.digitCount(1, 1);
        x.constant(2, 5);
        x.numbers(2);
        x.add(3, 1, 2);
        x.subtract(3, 1, 2);
        x.multiply(3, 1, 2);
        x.add(3, 3, 3);
        x.scale(3, 3, 7);
        x.trailingSection(3, 3, 3);
        x.leadingSection(3, 3, 3);
        x.reverse(3, 3);
        x.copy(1, 3);
        x.minimize(1, 1);
        x.save();
        ask(x);
        x.observe(1, 1);
        x.firstMismatch(0);
        x.forgetObservations();
        x.restore();
        typeAndRun(x);
        x.errorCode(x.errorDepth() - 1);
        x.errorPosition(0);
    }

    private static void ask(RegularSequences x) {
        x.dimension(0);
        x.row(0, 1);
        x.column(0, 1);
        x.entry(0, 1, 1, 1);
        x.value(0, Long.MAX_VALUE);
        x.paddedValue(0, 1, 20);
        x.sumOfLength(0, 1000000000);
        x.countZeros(0, 8);
        x.firstZero(0);
        x.minimalDimension(0);
        x.hankelRank(0, 3);
        x.areEqual(0, 3);
        x.firstDifference(0, 3, 1);
        x.ignoresLeadingZeros(0);
    }

    private static void typeAndRun(RegularSequences x) {
        String[] programs = {"0=n;1=c1;2=0+1;2=0*1;2=0-1;3=m2;3=r3;3=t31;3=l31;3=k5;0=3", "0=m9", "0=q"};
        for (String program : programs) {
            for (int k = 0; k < program.length(); k++) {
                x.append(program.charAt(k));
            }
            x.run();
        }
    }
}
