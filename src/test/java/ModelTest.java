/** Random runs of calls, the same ones each time: the class must answer each call as the plain model does. */
final class ModelTest {
    private static final int RUNS = 3000;
    /** What an object answers behind so many calls is free. */
    private static final int CALLS = 512;
    private static final int STEPS_OF_TELLING = 40;

    private final Intergreen real = new Intergreen();
    private final PlainModel model = new PlainModel();
    private final int run;
    private long seed;
    /** How often a wrong argument is made, one in so many. */
    private final int rarity;
    private final int phases;
    private final int pace;
    private final int faults;
    private final int[] called = new int[3];
    private int calls;

    private ModelTest(int run) {
        this.run = run;
        seed = run * 7919L + 17;
        rarity = 5 + upTo(60);
        phases = 1 + upTo(8);
        pace = 1 + upTo(30);
        faults = upTo(4) == 0 ? 3 : 25;
    }

    public static void main(String[] args) {
        for (int run = 0; run < RUNS; run++) {
            new ModelTest(run).compare();
        }
        Check.end();
    }

    private int upTo(int bound) {
        seed = seed * 6364136223846793005L + 1442695040888963407L;
        return (int) ((seed >>> 33) % bound);
    }

    private int number(int low, int high) {
        if (upTo(rarity) == 0) {
            int[] odd = {low - 1, high + 1, low, high, Integer.MIN_VALUE, Integer.MAX_VALUE, -1, 0};
            return odd[upTo(odd.length)];
        }
        return low + upTo(high - low + 1);
    }

    private int aPhase() {
        return number(0, phases - 1);
    }

    private void compare() {
        for (int step = 0; calls < CALLS; step++) {
            oneCall(step < STEPS_OF_TELLING ? upTo(3) : upTo(pace + 19));
        }
    }

    private void oneCall(int kind) {
        for (int k = 0; k < called.length; k++) {
            called[k] = k == 0 ? kind : aPhase();
        }
        int one = called[1];
        int other = called[2];
        switch (kind) {
            case 0:
                if (upTo(20) == 0) {
                    tell(one, other);
                    return;
                }
                tellPhase();
                return;
            case 1:
                int there = number(1, upTo(3) == 0 ? 20 : 5);
                int back = number(1, upTo(3) == 0 ? 20 : 5);
                same("meet", () -> done(() -> real.meet(one, other, there, back)),
                    () -> done(() -> model.meet(one, other, there, back)));
                return;
            case 2:
                int set = upTo(3) == 0 ? 1 << upTo(8) : upTo(256) & upTo(256);
                int bits = upTo(rarity) == 0 ? number(1, 255) : set & (1 << phases) - 1;
                same("stage", () -> real.stage(bits), () -> model.stage(bits));
                return;
            case 3:
            case 4:
                if (upTo(3) != 0) {
                    return;
                }
                int first = number(0, 2);
                same("start", () -> done(() -> real.start(first)), () -> done(() -> model.start(first)));
                return;
            case 5:
                if (upTo(6) == 0) {
                    same("stop", () -> done(real::stop), () -> done(model::stop));
                }
                return;
            case 6:
                int colour = number(0, 2);
                boolean isSo = upTo(faults) < 2;
                same("breaks", () -> real.breaks(one, colour, isSo) ? 1 : 0,
                    () -> model.breaks(one, colour, isSo) ? 1 : 0);
                return;
            case 7:
            case 8:
                same("press", () -> real.press(one) ? 1 : 0, () -> model.press(one) ? 1 : 0);
                return;
            case 9:
            case 10:
                int vehicles = number(1, upTo(4) == 0 ? 50 : 4);
                same("arrive", () -> real.arrive(one, vehicles), () -> model.arrive(one, vehicles));
                return;
            case 11:
                tram(one);
                return;
            case 12:
            case 13:
            case 14:
            case 15:
                tell(one, other);
                return;
            default:
                int seconds = upTo(40) == 0 ? number(1, 1000) : number(1, 1 + upTo(12));
                same("go", () -> real.go(seconds), () -> model.go(seconds));
                if (upTo(3) == 0) {
                    tellAll();
                }
                return;
        }
    }

    private void tellPhase() {
        int least = number(1, upTo(3) == 0 ? 30 : 4);
        int most = number(least, Math.max(least, upTo(3) == 0 ? 120 : 12));
        int gap = number(0, upTo(3) == 0 ? 10 : 3);
        same("phase", () -> real.phase(least, most, gap), () -> model.phase(least, most, gap));
    }

    private void tram(int phase) {
        if (upTo(2) == 0) {
            same("ask", () -> done(() -> real.ask(phase)), () -> done(() -> model.ask(phase)));
        } else {
            same("cancel", real::cancel, model::cancel);
        }
    }

    private void tellAll() {
        for (int what = 0; what <= 4; what++) {
            int asked = what;
            same("of", () -> real.of(asked), () -> model.of(asked));
        }
        int phase = aPhase();
        for (int what = 0; what <= 6; what++) {
            int asked = what;
            same("ofPhase", () -> real.ofPhase(phase, asked), () -> model.ofPhase(phase, asked));
        }
        int now = model.of(2);
        same("lamp", () -> real.lamp(phase, now - 1), () -> model.lamp(phase, now - 1));
    }

    private void tell(int one, int other) {
        int what = number(0, 6);
        int second = number(0, Math.max(0, model.of(2) - 1));
        int stage = number(0, 5);
        int next = number(0, 5);
        same("lamp", () -> real.lamp(one, second), () -> model.lamp(one, second));
        same("ofPhase", () -> real.ofPhase(one, what), () -> model.ofPhase(one, what));
        same("of", () -> real.of(what), () -> model.of(what));
        same("delay", real::delay, model::delay);
        same("delayEach", real::delayEach, model::delayEach);
        same("change", () -> real.change(stage, next), () -> model.change(stage, next));
        if (upTo(8) == 0) {
            same("seen", () -> real.seen(one, other), () -> model.seen(one, other));
            same("round", real::round, model::round);
            same("roundAnew", real::roundAnew, model::round);
            same("inRound", () -> real.inRound(stage), () -> model.inRound(stage));
        }
    }

    private interface Answer {
        double get();
    }

    private static double done(Runnable call) {
        call.run();
        return 0;
    }

    private void same(String call, Answer got, Answer due) {
        if (calls == CALLS) {
            return;
        }
        calls++;
        String is = told(got);
        String should = told(due);
        if (!is.equals(should)) {
            Check.same("run " + run + ", " + call + " of " + called[1] + ", " + called[2] + ": " + is + ", due is "
                + should, 0, 1);
        } else {
            Check.same(call, 0, 0);
        }
    }

    private static String told(Answer answer) {
        try {
            return String.valueOf(answer.get());
        } catch (RuntimeException thrown) {
            return thrown.getClass().getName();
        }
    }
}
