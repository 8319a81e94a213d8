/** Calls that are refused, or that only ask: what they answer, and that nothing has changed after them. */
final class Refused {
    interface Call {
        int on(RegularSequences x);
    }

    interface Setting {
        RegularSequences make();
    }

    private static final Probe BUSY = new Probe(busy());
    private static final Probe FULL = new Probe(full());

    private Refused() {
    }

    static void due(String what, Call call, int want) {
        RegularSequences x = busy();
        Checks.due(what, call.on(x), want);
        Probe.dueAlike(what, new Probe(x), BUSY);
    }

    static void dueWhenFull(String what, Call call, int want) {
        RegularSequences x = full();
        Checks.due(what, call.on(x), want);
        Probe.dueAlike(what, new Probe(x), FULL);
    }

    static void dueIn(Setting setting, String what, Call call, int want) {
        RegularSequences x = setting.make();
        Checks.due(what, call.on(x), want);
        Probe.dueAlike(what, new Probe(x), new Probe(setting.make()));
    }

    /**
     * Something everywhere, and room for more: base 3, the numbers in slot 0, dimension 0 in slot 1,
     * nothing in slot 2, dimension 1 in slot 3; two observations, a text, an error chain of two
     * levels and two saved states.
     */
    static RegularSequences busy() {
        RegularSequences x = new RegularSequences();
        x.constant(2, 7);
        x.save();
        x.setBase(3);
        x.digitCount(1, 2);
        x.save();
        fill(x);
        x.observe(4, 4);
        x.observe(5, 5);
        Workbenches.runText(x, "0=n;1=m2");
        Workbenches.type(x, "3=k1");
        return x;
    }

    /** The same slots, and room for nothing: 8 observations, 80 characters and 4 saved states. */
    static RegularSequences full() {
        RegularSequences x = new RegularSequences();
        for (int count = 1; count <= 4; count++) {
            x.setBase(2 + count % 3);
            x.constant(count - 1, 100 * count);
            x.save();
        }
        x.setBase(3);
        fill(x);
        for (int n = 1; n <= 8; n++) {
            x.observe(n, n);
        }
        x.append('?');
        x.run();
        Workbenches.type(x, "0=n;1=n;2=n;3=n;".repeat(4) + "0=n;1=n;2=n;3=k5");
        return x;
    }

    private static void fill(RegularSequences x) {
        x.numbers(0);
        x.define(1, 0);
        x.clear(2);
        Workbenches.build(x, 3, new int[] {11}, new int[][][] {{{12}}, {{13}}, {{14}}}, new int[] {15});
    }
}
