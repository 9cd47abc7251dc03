import java.util.function.ToLongFunction;

/** Counts and tells the answers that are not as due. */
final class Check {
    private int asked = 0;
    private int wrong = 0;

    void due(String what, long got, long want) {
        asked++;
        if (got != want) {
            wrong++;
            System.out.println(what + " answered " + got + ", due is " + want);
        }
    }

    void holds(String what, boolean so) {
        due(what, so ? 1 : 0, 1);
    }

    /** Whether objects with the one past and with the other can not be told apart. */
    void same(String what, Past one, Past other) {
        holds(what, Whole.of(one).equals(Whole.of(other)));
    }

    /** Whether the call answers this behind that past, and then nothing at all has changed. */
    void changesNothing(String what, Past past, ToLongFunction<BoardCords> call, long want) {
        due(what, call.applyAsLong(past.object()), want);
        same(what + ": nothing changes", past.then(x -> call.applyAsLong(x)), past);
    }

    /** Whether nothing at all has changed behind the call, whatever it answers. */
    void onlyAsks(Past past, ToLongFunction<BoardCords> call) {
        changesNothing("asked", past, call, call.applyAsLong(past.object()));
    }

    /** Ends with exit code 1 if an answer was wrong, or if nothing was asked. */
    void end() {
        System.out.println(asked + " answers looked at, " + wrong + " not as due");
        if (wrong != 0 || asked == 0) {
            System.exit(1);
        }
    }
}
