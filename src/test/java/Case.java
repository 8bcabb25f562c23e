import java.util.function.Supplier;
import java.util.function.ToLongFunction;

/** A call that is refused or faulted: on what object, what it answers, and what fault() tells behind it. */
record Case(String words, Supplier<PromiseWalk> from, ToLongFunction<PromiseWalk> call, long want, int fault) {
    /** In place of a fault: the call names none, so that fault() stays as it was. */
    static final int NAMES_NONE = -1;
    static final int SIZE = 4;

    static Case of(String words, Supplier<PromiseWalk> from, ToLongFunction<PromiseWalk> call, long want) {
        return new Case(words, from, call, want, NAMES_NONE);
    }

    /** Refused, by a call that names FAULTS. */
    static Case refused(String words, Supplier<PromiseWalk> from, ToLongFunction<PromiseWalk> call, long want) {
        return new Case(words, from, call, want, 0);
    }

    static Case faulted(String words, Supplier<PromiseWalk> from, ToLongFunction<PromiseWalk> call, int fault) {
        return new Case(words, from, call, -10 - fault, fault);
    }

    /** A call came to SIZE ahead of it, so that it shows what it does to fault(). */
    private PromiseWalk behindAFault() {
        PromiseWalk x = from.get();
        x.sheet(0, 0, -1);
        return x;
    }

    void answers(Due due) {
        due.is(words, call.applyAsLong(from.get()), want);
        due.is(words + ", behind a fault", call.applyAsLong(behindAFault()), want);
    }

    void leavesTheFaultThatIsDue(Due due) {
        PromiseWalk x = behindAFault();
        call.applyAsLong(x);
        due.is(words + ": fault()", x.fault(), fault == NAMES_NONE ? SIZE : fault);
    }

    void changesNothing(Due due) {
        PromiseWalk x = from.get();
        call.applyAsLong(x);
        due.same(words + ": all that can be asked", Seen.all(x), Seen.all(from.get()));
    }
}
