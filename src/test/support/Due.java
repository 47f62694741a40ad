import java.util.function.IntSupplier;

/** Compares answers with those that are due, prints what is wrong, and ends a test with code 1 if anything was. */
final class Due {
    private int wrong = 0;
    private int looked = 0;
    private String part = "";

    void part(String name) {
        part = name;
    }

    void is(String what, long got, long want) {
        looked++;
        if (got != want) {
            wrong++;
            System.out.println(part + ": " + what + " answered " + got + ", due is " + want);
        }
    }

    void isTrue(String what, boolean got) {
        is(what, got ? 1 : 0, 1);
    }

    /** The call is refused by a FINDING, which is told and counted, and changes nothing else. */
    void finds(TowerBoards t, int finding, String what, IntSupplier call) {
        String before = State.withoutFindings(t);
        int[] counts = State.findings(t);
        is(what, call.getAsInt(), TowerBoards.FINDING);
        is(what + ", finding()", t.finding(), finding);
        for (int f = 1; f <= 5; f++) {
            is(what + ", findings(" + f + ")", t.findings(f), counts[f] + (f == finding ? 1 : 0));
        }
        isTrue(what + " leaves all as it was", before.equals(State.withoutFindings(t)));
    }

    /** The call is BAD and changes nothing at all. */
    void bad(TowerBoards t, String what, IntSupplier call) {
        leaves(t, what, TowerBoards.BAD, call);
    }

    /** The call answers this and changes nothing at all. */
    void leaves(TowerBoards t, String what, int want, IntSupplier call) {
        String before = State.all(t);
        is(what, call.getAsInt(), want);
        isTrue(what + " leaves all as it was", before.equals(State.all(t)));
    }

    /** BOARD numbers that are none. */
    void badBoards(TowerBoards t, String what, CallOf call) {
        for (int b : new int[] {-1, 12, Integer.MIN_VALUE, Integer.MAX_VALUE}) {
            bad(t, what + " of board " + b, () -> call.of(b));
        }
    }

    /** ROW numbers that are none. */
    void badRows(TowerBoards t, String what, CallOf call) {
        for (int r : new int[] {-1, 8, Integer.MIN_VALUE, Integer.MAX_VALUE}) {
            bad(t, what + " of row " + r, () -> call.of(r));
        }
    }

    /** Numbers on both sides of a range. */
    void badBeyond(TowerBoards t, String what, int least, int most, CallOf call) {
        for (int x : new int[] {least - 1, most + 1, Integer.MIN_VALUE, Integer.MAX_VALUE}) {
            bad(t, what + " with " + x, () -> call.of(x));
        }
    }

    void end() {
        System.out.println(looked + " answers looked at, " + wrong + " not as due");
        if (wrong != 0 || looked == 0) {
            System.exit(1);
        }
    }

    /** A call with one number left open. */
    interface CallOf {
        int of(int number);
    }
}
