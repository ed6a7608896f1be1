import java.util.function.Supplier;

/** All that an object answers, as a text, a line each call: two objects that are alike have the same account. */
final class Account {
    private final Intergreen x;
    private final StringBuilder told = new StringBuilder();

    private Account(Intergreen x) {
        this.x = x;
    }

    /** What can be asked now: less than 200 calls, so that an object may give two accounts. */
    static String of(Intergreen x) {
        Account account = new Account(x);
        account.askAll();
        return account.told.toString();
    }

    /** What comes of further calls, which bring to light what can't be asked: what was told, and what is broken. */
    static String goingOn(Intergreen x) {
        Account account = new Account(x);
        account.tellMore();
        account.runOn();
        account.askAll();
        return account.told.toString();
    }

    private void askAll() {
        for (int what = 0; what <= 4; what++) {
            int asked = what;
            note("of " + what, () -> x.of(asked));
        }
        note("delay", x::delay);
        note("delayEach", x::delayEach);
        note("round", x::round);
        note("roundAnew", x::roundAnew);
        int phases = phases();
        for (int phase = 0; phase < phases; phase++) {
            askPhase(phase, phases);
        }
        askStages();
    }

    private int phases() {
        int count = 0;
        while (count < 8 && answers(count)) {
            count++;
        }
        return count;
    }

    private boolean answers(int phase) {
        try {
            x.ofPhase(phase, 0);
            return true;
        } catch (IndexOutOfBoundsException thrown) {
            return false;
        }
    }

    private void askPhase(int phase, int phases) {
        for (int what = 0; what <= 6; what++) {
            int asked = what;
            note("ofPhase " + phase + " " + what, () -> x.ofPhase(phase, asked));
        }
        note("lamp " + phase, () -> x.lamp(phase, x.of(2) - 1));
        for (int other = 0; other < phases; other++) {
            int behind = other;
            note("seen " + phase + " " + other, () -> x.seen(phase, behind));
        }
    }

    private void askStages() {
        int stages = 0;
        while (stages < 6 && note("inRound " + stages, inRound(stages))) {
            stages++;
        }
        for (int from = 0; from < stages; from++) {
            for (int to = 0; to < stages; to++) {
                note("change " + from + " " + to, change(from, to));
            }
        }
    }

    private Supplier<Object> inRound(int place) {
        return () -> x.inRound(place);
    }

    private Supplier<Object> change(int from, int to) {
        return () -> x.change(from, to);
    }

    private void tellMore() {
        note("stage", () -> x.stage(1));
        note("phase", () -> x.phase(2, 4, 1));
        note("cancel", x::cancel);
        for (int phase = 0; phase < 8; phase++) {
            for (int colour = Intergreen.RED; colour <= Intergreen.AMBER; colour++) {
                note("breaks " + phase + " " + colour, mend(phase, colour));
            }
        }
    }

    private Supplier<Object> mend(int phase, int colour) {
        return () -> x.breaks(phase, colour, false);
    }

    private void runOn() {
        note("go", () -> x.go(1));
        note("stop", () -> done(x::stop));
        note("start", () -> done(() -> x.start(0)));
        note("go", () -> x.go(2));
        note("press", () -> x.press(1));
        note("arrive", () -> x.arrive(0, 1));
        note("go", () -> x.go(30));
    }

    private static String done(Runnable call) {
        call.run();
        return "done";
    }

    /** Returns whether it answered. */
    private boolean note(String call, Supplier<Object> answer) {
        told.append(call).append(' ');
        try {
            told.append(answer.get()).append('\n');
            return true;
        } catch (RuntimeException thrown) {
            told.append(thrown.getClass().getName()).append('\n');
            return false;
        }
    }
}
