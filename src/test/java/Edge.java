import java.util.ArrayList;
import java.util.List;
import java.util.function.Supplier;
import java.util.function.ToIntFunction;

/** What the tests of edges share: ranges of arguments, and that a call that is refused leaves all as it was. */
final class Edge extends Check {
    static final int NONE = VerdictFirst.NONE;

    /** A call whose one argument is tried; a boolean counts 1 or 0. */
    interface Call {
        int of(VerdictFirst x, int argument);
    }

    static int bit(boolean is) {
        return is ? 1 : 0;
    }

    /** An argument may be low .. high: both are taken, and those beside them and far off are refused. */
    void range(String name, int low, int high, Supplier<VerdictFirst> court, Call call, int refusal) {
        taken(name, low, court, call, refusal);
        taken(name, high, court, call, refusal);
        refusedBeside(name, low, high, court, call, refusal);
    }

    /** As range, where none at all can be taken: all from low on are refused, and all below it. */
    void noRange(String name, int low, Supplier<VerdictFirst> court, Call call, int refusal) {
        refusedBeside(name, low, low - 1, court, call, refusal);
    }

    private void taken(String name, int argument, Supplier<VerdictFirst> court, Call call, int refusal) {
        due(name + " " + argument + " is refused", call.of(court.get(), argument) == refusal, false);
    }

    private void refusedBeside(String name, int low, int high, Supplier<VerdictFirst> court, Call call, int refusal) {
        // The far ones are those that a shift, a mask or a sum could take for low or high.
        int[] beside = {low - 1, high + 1, low + 32, high - 32, low + 64, low + 256, low + 65536, high - 65536,
            Integer.MIN_VALUE, Integer.MIN_VALUE + low, Integer.MAX_VALUE};
        for (int argument : beside) {
            if (argument < low || argument > high) {
                refused(court, name + " " + argument, x -> call.of(x, argument), refusal);
            }
        }
    }

    /** A call on a court of its own answers so, and nothing has changed by it. */
    void refused(Supplier<VerdictFirst> court, String name, ToIntFunction<VerdictFirst> call, int refusal) {
        VerdictFirst x = court.get();
        due(name, call.applyAsInt(x), refusal);
        due(name + " has changed something", picture(x).equals(picture(court.get())), true);
    }

    /**
     * All that can be seen of a court, what its tape and its image hold among it. It takes fewer calls than the
     * 512 that an object may be used for, and leaves the court at its image.
     */
    static List<Integer> picture(VerdictFirst x) {
        List<Integer> seen = new ArrayList<>();
        look(x, seen);
        readTape(x, seen);
        seen.add(x.back());
        look(x, seen);
        readTape(x, seen);
        return seen;
    }

    private static void look(VerdictFirst x, List<Integer> seen) {
        for (int what = -1; what <= 40; what++) {
            seen.add(x.about(what));
        }
        seen.add(x.fault(0));
        seen.add(x.fault(1));
        int witnesses = x.about(0);
        for (int who = 0; who < witnesses; who++) {
            for (int what = 0; what < 4; what++) {
                seen.add(x.of(who, what));
            }
            seen.add(x.kinds(who));
        }
        int all = (1 << witnesses) - 1;
        int heard = x.about(5);
        for (int fact = 0; fact < 16; fact++) {
            seen.add(x.shown(all, fact));
            seen.add(x.known(heard, fact));
        }
        int verdicts = x.about(1);
        for (int verdict = 0; verdict < verdicts; verdict++) {
            seen.add(x.follows(0, verdict));
            seen.add(x.least(verdict, 0));
            seen.add(x.least(verdict, 1));
        }
        seen.add(x.never());
        seen.add(x.draws(5, 30, 1));
    }

    private static void readTape(VerdictFirst x, List<Integer> seen) {
        int number = x.text();
        seen.add(number);
        seen.add(x.fault(0));
        seen.add(x.fault(1));
        seen.add(bit(x.by(number)));
        seen.add(x.about(8));
        seen.add(x.of(0, 0));
        seen.add(x.of(0, 1));
    }
}
