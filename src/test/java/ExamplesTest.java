/** The document's examples, each on a new object, each with the answers that it gives. */
public final class ExamplesTest {
    public static void main(String[] args) {
        numbersDigitCountAndSum();
        constantSequence();
        reversalAndFirstDifference();
        dimensionAtItsLimit();
        textWithFault();
        sequenceOfZeros();
        Checks.finish();
    }

    private static void numbersDigitCountAndSum() {
        RegularSequences x = new RegularSequences();
        Checks.due(x.numbers(0), 2);
        Checks.due(x.value(0, 13L), 13);
        Checks.due(x.digitCount(1, 1), 2);
        Checks.due(x.value(1, 13L), 3);
        Checks.due(x.add(2, 0, 1), 4);
        Checks.due(x.value(2, 13L), 16);
    }

    private static void constantSequence() {
        RegularSequences x = new RegularSequences();
        Checks.due(x.constant(0, 5), 1);
        Checks.due(x.add(1, 0, 0), 2);
        Checks.due(x.dimension(1), 2);
        Checks.due(x.minimize(1, 1), 1);
        Checks.due(x.dimension(1), 1);
        Checks.due(x.value(1, 100L), 10);
    }

    private static void reversalAndFirstDifference() {
        RegularSequences x = new RegularSequences();
        Checks.due(x.numbers(0), 2);
        Checks.due(x.reverse(1, 0), 2);
        Checks.due(x.value(1, 4L), 1);
        Checks.due(x.firstDifference(0, 1, 0), 2);
        Checks.due(x.firstDifference(0, 1, 1), 1);
        Checks.due(x.ignoresLeadingZeros(1), 0);
    }

    private static void dimensionAtItsLimit() {
        RegularSequences x = new RegularSequences();
        Checks.due(x.randomize(0, 8, 1), 8);
        Checks.due(x.numbers(1), 2);
        Checks.due(x.add(2, 0, 1), -4);
        Checks.due(x.dimension(2), -2);
    }

    private static void textWithFault() {
        RegularSequences x = new RegularSequences();
        Checks.due(x.append(48), 1);
        Checks.due(x.append(61), 2);
        Checks.due(x.append(109), 3);
        Checks.due(x.append(51), 4);
        Checks.due(x.run(), -7);
        Checks.due(x.errorDepth(), 2);
        Checks.due(x.errorCode(0), -7);
        Checks.due(x.errorPosition(0), 0);
        Checks.due(x.errorCode(1), -2);
        Checks.due(x.errorPosition(1), 0);
    }

    private static void sequenceOfZeros() {
        RegularSequences x = new RegularSequences();
        Checks.due(x.define(0, 0), 1);
        Checks.due(x.value(0, 7L), 0);
        Checks.due(x.countZeros(0, 3), 8);
        Checks.due(x.minimalDimension(0), 0);
        Checks.due(x.firstZero(0), 0);
    }
}
