/**
 * Each Throws row of the promises 2 to 22, on both sides of each range, and these two sentences: "A call that throws an
 * exception changes nothing; if several exceptions apply, the one that its throws clause names first is thrown."
 */
final class RefusalsTest {
    private static final int MIN = Integer.MIN_VALUE;
    private static final int MAX = Integer.MAX_VALUE;
    private static final int[] NONE_OF_TWO = {-1, 2, 5, 6, 7, 8, 32, 33, MIN, MAX};
    private static final int[] NONE_OF_EIGHT = {-1, 8, 9, 32, 39, MIN, MAX};
    private static final int[] NONE_OF_SIX = {-1, 6, 7, 8, 32, MIN, MAX};
    private static final int[] NO_SECONDS_BETWEEN = {0, -1, 21, MIN, MAX};

    private RefusalsTest() {
    }

    public static void main(String[] args) {
        startedIsAsNamed();
        phaseArguments();
        phaseStates();
        toldBehindAStart();
        meetPhases();
        meetArguments();
        meetStates();
        stageArguments();
        stageStates();
        start();
        stop();
        press();
        arrive();
        arriveBeyondTheMost();
        ask();
        cancel();
        breaks();
        go();
        goBeyondTheLast();
        lamp();
        ofPhase();
        of();
        seen();
        change();
        inRound();
        nothingTold();
        Check.end();
    }

    private static void startedIsAsNamed() {
        Check.same("CHANGING", Started.CHANGING.make().of(0), Intergreen.CHANGING);
        Check.same("ON", Started.ON.make().of(0), Intergreen.ON);
        Check.same("FLASHING", Started.FLASHING.make().of(0), Intergreen.FLASHING);
        Check.same("STOPPED", Started.STOPPED.make().of(0), Intergreen.STOPPED);
    }

    private static void phaseArguments() {
        for (int least : new int[] {0, -1, 31, 32, 120, MIN, MAX}) {
            Refused.argument("phase, least " + least, Crossings::two, x -> x.phase(least, 120, 0));
        }
        for (int most : new int[] {4, 0, -1, 121, MIN, MAX}) {
            Refused.argument("phase, most " + most, Crossings::two, x -> x.phase(5, most, 0));
        }
        Refused.argument("phase, the greatest least, most 29", Crossings::two, x -> x.phase(30, 29, 0));
        Refused.argument("phase, the smallest least, most 0", Crossings::two, x -> x.phase(1, 0, 0));
        for (int gap : new int[] {-1, 11, MIN, MAX}) {
            Refused.argument("phase, gap " + gap, Crossings::two, x -> x.phase(5, 20, gap));
        }
    }

    private static void phaseStates() {
        Refused.state("a ninth phase", Crossings::full, x -> x.phase(5, 20, 0));
        Refused.state("a ninth phase, without stages", () -> Crossings.phases(8, 1, 1, 0), x -> x.phase(1, 1, 0));
        Refused.argument("a ninth phase, least 0", Crossings::full, x -> x.phase(0, 20, 0));
        Refused.argument("a ninth phase, most 121", Crossings::full, x -> x.phase(1, 121, 0));
        Refused.argument("a ninth phase, gap 11", Crossings::full, x -> x.phase(1, 20, 11));
        for (Started started : Started.values()) {
            Refused.state("phase, " + started, started::make, x -> x.phase(5, 20, 0));
            Refused.argument("phase, least 31, " + started, started::make, x -> x.phase(31, 40, 0));
            Refused.argument("phase, most 4, " + started, started::make, x -> x.phase(5, 4, 0));
            Refused.argument("phase, gap -1, " + started, started::make, x -> x.phase(5, 20, -1));
        }
    }

    /** "if THE LIGHTS were started ever": with no second gone by, and stopped ahead of any. */
    private static void toldBehindAStart() {
        Refused.state("phase, just started", RefusalsTest::justStarted, x -> x.phase(1, 1, 0));
        Refused.state("meet, just started", RefusalsTest::justStarted, x -> x.meet(0, 1, 9, 9));
        Refused.state("stage, just started", RefusalsTest::justStarted, x -> x.stage(1));
        Refused.state("phase, just stopped", RefusalsTest::justStopped, x -> x.phase(1, 1, 0));
        Refused.state("meet, just stopped", RefusalsTest::justStopped, x -> x.meet(0, 1, 9, 9));
        Refused.state("stage, just stopped", RefusalsTest::justStopped, x -> x.stage(1));
    }

    private static Intergreen justStarted() {
        Intergreen x = Crossings.two();
        x.start(0);
        return x;
    }

    private static Intergreen justStopped() {
        Intergreen x = justStarted();
        x.stop();
        return x;
    }

    private static void meetPhases() {
        for (int none : NONE_OF_TWO) {
            Refused.bounds("meet, one " + none, Crossings::two, x -> x.meet(none, 0, 1, 1));
            Refused.bounds("meet, other " + none, Crossings::two, x -> x.meet(0, none, 1, 1));
            Refused.bounds("meet, both " + none, Crossings::two, x -> x.meet(none, none, 1, 1));
            Refused.bounds("meet, other " + none + ", there 0", Crossings::two, x -> x.meet(0, none, 0, 1));
            Refused.bounds("meet, one " + none + ", back 21", Crossings::two, x -> x.meet(none, 0, 1, 21));
        }
        for (int none : NONE_OF_EIGHT) {
            Refused.bounds("meet, one " + none + " of 8", Crossings::full, x -> x.meet(none, 0, 1, 1));
            Refused.bounds("meet, other " + none + " of 8", Crossings::full, x -> x.meet(0, none, 1, 1));
        }
        for (Started started : Started.values()) {
            Refused.bounds("meet, one 2, " + started, started::make, x -> x.meet(2, 0, 1, 1));
            Refused.bounds("meet, other -1, " + started, started::make, x -> x.meet(0, -1, 1, 1));
        }
    }

    private static void meetArguments() {
        Refused.argument("meet, 0 and 0", Crossings::two, x -> x.meet(0, 0, 1, 1));
        Refused.argument("meet, 1 and 1", Crossings::two, x -> x.meet(1, 1, 1, 1));
        for (int seconds : NO_SECONDS_BETWEEN) {
            Refused.argument("meet, there " + seconds, Crossings::two, x -> x.meet(0, 1, seconds, 1));
            Refused.argument("meet, back " + seconds, Crossings::two, x -> x.meet(0, 1, 1, seconds));
        }
        for (Started started : Started.values()) {
            Refused.argument("meet, the same, " + started, started::make, x -> x.meet(1, 1, 1, 1));
            Refused.argument("meet, there 0, " + started, started::make, x -> x.meet(0, 1, 0, 1));
            Refused.argument("meet, back 21, " + started, started::make, x -> x.meet(0, 1, 1, 21));
        }
        Refused.argument("meet, the same, a stage has it", Crossings::full, x -> x.meet(4, 4, 1, 1));
        Refused.argument("meet, there 21, a stage has both", Crossings::full, x -> x.meet(4, 5, 21, 1));
        Refused.argument("meet, back 0, a stage has both", Crossings::full, x -> x.meet(4, 5, 1, 0));
    }

    private static void meetStates() {
        for (Started started : Started.values()) {
            Refused.state("meet, " + started, started::make, x -> x.meet(0, 1, 9, 9));
        }
        Refused.state("meet, the stage 2 has both", Crossings::full, x -> x.meet(1, 2, 9, 9));
        Refused.state("meet, the stage 2 has both, turned round", Crossings::full, x -> x.meet(2, 1, 9, 9));
        Refused.state("meet, the last stage alone has both", Crossings::full, x -> x.meet(0, 6, 9, 9));
        Refused.state("meet, the last stage alone has both, turned round", Crossings::full, x -> x.meet(6, 0, 9, 9));
        Refused.state("meet, the first stage has both, the lowest and the highest", () -> {
            Intergreen x = Crossings.phases(8, 1, 1, 0);
            x.stage(0x81);
            return x;
        }, x -> x.meet(7, 0, 9, 9));
    }

    private static void stageArguments() {
        Refused.argument("stage, none", Crossings::two, x -> x.stage(0));
        for (int phase = 2; phase < 32; phase++) {
            int bit = 1 << phase;
            Refused.argument("stage, the phase " + phase, Crossings::two, x -> x.stage(bit));
            Refused.argument("stage, 0 and the phase " + phase, Crossings::two, x -> x.stage(bit | 1));
        }
        Refused.argument("stage, all bits", Crossings::two, x -> x.stage(-1));
        Refused.argument("stage, MAX", Crossings::two, x -> x.stage(MAX));
        Refused.argument("stage, no phase told", Intergreen::new, x -> x.stage(1));
        Refused.argument("stage, none and no phase told", Intergreen::new, x -> x.stage(0));
        Refused.argument("stage, the phase 8 of 8", () -> Crossings.phases(8, 1, 1, 0), x -> x.stage(0x100));
        Refused.argument("stage, all of 8 and one more", () -> Crossings.phases(8, 1, 1, 0), x -> x.stage(0x1FF));
        Refused.argument("stage, none of 8", () -> Crossings.phases(8, 1, 1, 0), x -> x.stage(0));
    }

    private static void stageStates() {
        Refused.state("stage, two meet", Crossings::two, x -> x.stage(3));
        Refused.argument("stage, two meet, and a phase 2", Crossings::two, x -> x.stage(7));
        Refused.state("a seventh stage", Crossings::full, x -> x.stage(1));
        Refused.state("a seventh stage, two meet", Crossings::full, x -> x.stage(0x0C));
        Refused.argument("a seventh stage, none", Crossings::full, x -> x.stage(0));
        Refused.argument("a seventh stage, the phase 8", Crossings::full, x -> x.stage(0x100));
        for (Started started : Started.values()) {
            Refused.state("stage, " + started, started::make, x -> x.stage(1));
            Refused.state("stage, two meet, " + started, started::make, x -> x.stage(3));
            Refused.argument("stage, none, " + started, started::make, x -> x.stage(0));
            Refused.argument("stage, the phase 2, " + started, started::make, x -> x.stage(4));
        }
        Refused.state("stage, the lowest and the highest meet", () -> lowestAndHighestMeet(0, 7), x -> x.stage(0x81));
        Refused.state("stage, all of 8, two meet", () -> lowestAndHighestMeet(7, 0), x -> x.stage(0xFF));
    }

    private static Intergreen lowestAndHighestMeet(int one, int other) {
        Intergreen x = Crossings.phases(8, 1, 1, 0);
        x.meet(one, other, 1, 1);
        return x;
    }

    private static void start() {
        for (int none : NONE_OF_TWO) {
            Refused.bounds("start, " + none, Crossings::two, x -> x.start(none));
        }
        for (int none : NONE_OF_SIX) {
            Refused.bounds("start, " + none + " of 6", Crossings::full, x -> x.start(none));
        }
        Refused.bounds("start, phases without a stage", () -> Crossings.phases(2, 1, 1, 0), x -> x.start(0));
        for (Started started : Started.values()) {
            Refused.bounds("start, 2, " + started, started::make, x -> x.start(2));
            Refused.bounds("start, -1, " + started, started::make, x -> x.start(-1));
        }
        for (int stage = 0; stage < 2; stage++) {
            int told = stage;
            Refused.state("start, CHANGING", Started.CHANGING::make, x -> x.start(told));
            Refused.state("start, ON", Started.ON::make, x -> x.start(told));
            Refused.state("start, no second gone by", RefusalsTest::justStarted, x -> x.start(told));
        }
    }

    private static void stop() {
        Refused.state("stop, at first", Crossings::two, x -> x.stop());
        Refused.state("stop, nothing told", Intergreen::new, x -> x.stop());
        Refused.state("stop, again", Started.STOPPED::make, x -> x.stop());
        Refused.state("stop, again, no second gone by", RefusalsTest::justStopped, x -> x.stop());
        Refused.state("stop, at the end", RefusalsTest::atTheEnd, x -> x.stop());
    }

    private static Intergreen atTheEnd() {
        Intergreen x = Crossings.two();
        Crossings.goAllBut(x, 0);
        return x;
    }

    private static void press() {
        for (int none : NONE_OF_TWO) {
            Refused.bounds("press, " + none, Crossings::two, x -> x.press(none));
        }
        for (int none : NONE_OF_EIGHT) {
            Refused.bounds("press, " + none + " of 8", Crossings::full, x -> x.press(none));
        }
        for (Started started : Started.values()) {
            Refused.bounds("press, 2, " + started, started::make, x -> x.press(2));
        }
    }

    private static void arrive() {
        for (int none : NONE_OF_TWO) {
            Refused.bounds("arrive, " + none, Crossings::two, x -> x.arrive(none, 1));
            Refused.bounds("arrive, " + none + ", no vehicle", Crossings::two, x -> x.arrive(none, 0));
            Refused.bounds("arrive, " + none + ", 51 vehicles", Crossings::two, x -> x.arrive(none, 51));
        }
        for (int none : NONE_OF_EIGHT) {
            Refused.bounds("arrive, " + none + " of 8", Crossings::full, x -> x.arrive(none, 1));
        }
        for (int vehicles : new int[] {0, -1, 51, 1000, MIN, MAX}) {
            Refused.argument("arrive, vehicles " + vehicles, Crossings::two, x -> x.arrive(0, vehicles));
            Refused.argument("arrive, vehicles " + vehicles + " to 1000", Crossings::full, x -> x.arrive(0, vehicles));
        }
    }

    private static void arriveBeyondTheMost() {
        Refused.state("arrive, 1 to 1000", Crossings::full, x -> x.arrive(0, 1));
        Refused.state("arrive, 50 to 1000", Crossings::full, x -> x.arrive(0, 50));
        Refused.state("arrive, 2 to 999", () -> queueOf(49), x -> x.arrive(1, 2));
        Refused.state("arrive, 50 to 951", () -> queueOf(1), x -> x.arrive(1, 50));
        Check.same("arrive, 1 to 999", queueOf(49).arrive(1, 1), 1000);
        Check.same("arrive, 50 to 950", queueOf(0).arrive(1, 50), 1000);
        Check.same("arrive, 49 to 951", queueOf(1).arrive(1, 49), 1000);
    }

    /** A queue of 950 and so many more at the phase 1. */
    private static Intergreen queueOf(int more) {
        Intergreen x = Crossings.two();
        for (int times = 0; times < 19; times++) {
            x.arrive(1, 50);
        }
        if (more > 0) {
            x.arrive(1, more);
        }
        return x;
    }

    private static void ask() {
        for (int none : NONE_OF_TWO) {
            Refused.bounds("ask, " + none, Crossings::two, x -> x.ask(none));
            Refused.bounds("ask, " + none + ", 1 is asked for", () -> asked(1), x -> x.ask(none));
        }
        for (int none : NONE_OF_EIGHT) {
            Refused.bounds("ask, " + none + " of 8", Crossings::full, x -> x.ask(none));
        }
        for (int phase = 0; phase < 2; phase++) {
            int told = phase;
            Refused.state("ask, 0 is asked for", () -> asked(0), x -> x.ask(told));
            Refused.state("ask, 1 is asked for", () -> asked(1), x -> x.ask(told));
        }
    }

    private static Intergreen asked(int phase) {
        Intergreen x = Started.ON.make();
        x.ask(phase);
        return x;
    }

    private static void cancel() {
        Refused.state("cancel, nothing told", Intergreen::new, x -> x.cancel());
        Refused.state("cancel, at first", Crossings::two, x -> x.cancel());
        for (Started started : Started.values()) {
            Refused.state("cancel, " + started, started::make, x -> x.cancel());
        }
        Refused.state("cancel, again", () -> {
            Intergreen x = asked(0);
            x.cancel();
            return x;
        }, x -> x.cancel());
    }

    private static void breaks() {
        for (int none : NONE_OF_TWO) {
            Refused.bounds("breaks, " + none, Crossings::two, x -> x.breaks(none, 0, true));
            Refused.bounds("breaks, " + none + ", colour 3", Crossings::two, x -> x.breaks(none, 3, true));
            Refused.bounds("breaks, " + none + ", colour -1", Crossings::two, x -> x.breaks(none, -1, false));
        }
        for (int none : NONE_OF_EIGHT) {
            Refused.bounds("breaks, " + none + " of 8", Crossings::full, x -> x.breaks(none, 0, true));
        }
        for (int colour : new int[] {-1, Intergreen.DARK, 4, 32, 33, MIN, MAX}) {
            Refused.argument("breaks, colour " + colour, Crossings::two, x -> x.breaks(0, colour, true));
            Refused.argument("mended, colour " + colour, RefusalsTest::allBroken, x -> x.breaks(0, colour, false));
        }
    }

    private static Intergreen allBroken() {
        Intergreen x = Crossings.two();
        for (int lamp = 0; lamp < 6; lamp++) {
            x.breaks(lamp / 3, lamp % 3, true);
        }
        return x;
    }

    private static void go() {
        for (int seconds : new int[] {0, -1, 1001, 5000, MIN, MAX}) {
            Refused.argument("go, " + seconds, Crossings::two, x -> x.go(seconds));
            Refused.argument("go, ON, " + seconds, Started.ON::make, x -> x.go(seconds));
            Refused.argument("go, at the end, " + seconds, RefusalsTest::atTheEnd, x -> x.go(seconds));
        }
    }

    private static void goBeyondTheLast() {
        for (int seconds : new int[] {1, 2, 999, 1000}) {
            Refused.state("go, at the end, " + seconds, RefusalsTest::atTheEnd, x -> x.go(seconds));
            Refused.state("go, one too many of " + seconds, () -> late(seconds - 1), x -> x.go(seconds));
            Intergreen last = late(seconds);
            last.go(seconds);
            Check.same("go, the last " + seconds, last.of(2), 5000);
        }
    }

    /** Lights that are on, a queue, and so many seconds left. */
    private static Intergreen late(int seconds) {
        Intergreen x = Crossings.two();
        Crossings.goAllBut(x, seconds);
        x.arrive(0, 9);
        x.start(0);
        return x;
    }

    private static void lamp() {
        for (int none : NONE_OF_TWO) {
            Refused.bounds("lamp, phase " + none, Started.ON::make, x -> x.lamp(none, 0));
            Refused.bounds("lamp, phase " + none + ", second 3", Started.ON::make, x -> x.lamp(none, 3));
        }
        for (int none : NONE_OF_EIGHT) {
            Refused.bounds("lamp, phase " + none + " of 8", RefusalsTest::fullAndGone, x -> x.lamp(none, 0));
        }
        for (int second : new int[] {-1, 3, 4, 4999, 5000, MIN, MAX}) {
            Refused.bounds("lamp, second " + second + " of 3", Started.ON::make, x -> x.lamp(0, second));
        }
        for (int second : new int[] {-1, 0, 1, 4999, 5000, MIN, MAX}) {
            Refused.bounds("lamp, second " + second + " of none", Crossings::two, x -> x.lamp(0, second));
        }
        for (int second : new int[] {-1, 5000, 5001, MIN, MAX}) {
            Refused.bounds("lamp, second " + second + " of all", RefusalsTest::atTheEnd, x -> x.lamp(0, second));
        }
    }

    private static Intergreen fullAndGone() {
        Intergreen x = Crossings.full();
        x.start(5);
        x.go(2);
        return x;
    }

    private static void ofPhase() {
        for (int none : NONE_OF_TWO) {
            Refused.bounds("ofPhase, " + none, Crossings::two, x -> x.ofPhase(none, 0));
            Refused.bounds("ofPhase, " + none + ", what 7", Crossings::two, x -> x.ofPhase(none, 7));
            Refused.bounds("ofPhase, " + none + ", what -1", Crossings::two, x -> x.ofPhase(none, -1));
        }
        for (int none : NONE_OF_EIGHT) {
            Refused.bounds("ofPhase, " + none + " of 8", Crossings::full, x -> x.ofPhase(none, 0));
        }
        for (int what : new int[] {-1, 7, 8, MIN, MAX}) {
            Refused.argument("ofPhase, what " + what, Started.ON::make, x -> x.ofPhase(0, what));
        }
    }

    private static void of() {
        for (int what : new int[] {-1, 5, 6, MIN, MAX}) {
            Refused.argument("of, what " + what, Started.ON::make, x -> x.of(what));
            Refused.argument("of, nothing told, what " + what, Intergreen::new, x -> x.of(what));
        }
    }

    private static void seen() {
        for (int none : NONE_OF_TWO) {
            Refused.bounds("seen, one " + none, Started.ON::make, x -> x.seen(none, 0));
            Refused.bounds("seen, other " + none, Started.ON::make, x -> x.seen(0, none));
            Refused.bounds("seen, both " + none, Started.ON::make, x -> x.seen(none, none));
        }
        for (int none : NONE_OF_EIGHT) {
            Refused.bounds("seen, one " + none + " of 8", RefusalsTest::fullAndGone, x -> x.seen(none, 0));
            Refused.bounds("seen, other " + none + " of 8", RefusalsTest::fullAndGone, x -> x.seen(0, none));
        }
        Refused.argument("seen, 0 and 0", Started.ON::make, x -> x.seen(0, 0));
        Refused.argument("seen, 1 and 1", Started.ON::make, x -> x.seen(1, 1));
        Refused.argument("seen, 7 and 7, nothing gone by", Crossings::full, x -> x.seen(7, 7));
    }

    private static void change() {
        for (int none : NONE_OF_TWO) {
            Refused.bounds("change, from " + none, Crossings::two, x -> x.change(none, 0));
            Refused.bounds("change, to " + none, Crossings::two, x -> x.change(0, none));
            Refused.bounds("change, both " + none, Crossings::two, x -> x.change(none, none));
        }
        for (int none : NONE_OF_SIX) {
            Refused.bounds("change, from " + none + " of 6", Crossings::full, x -> x.change(none, 0));
            Refused.bounds("change, to " + none + " of 6", Crossings::full, x -> x.change(0, none));
        }
    }

    private static void inRound() {
        for (int none : NONE_OF_TWO) {
            Refused.bounds("inRound, " + none, Crossings::two, x -> x.inRound(none));
        }
        for (int none : NONE_OF_SIX) {
            Refused.bounds("inRound, " + none + " of 6", Crossings::full, x -> x.inRound(none));
        }
        Refused.bounds("inRound, 1 of 1", () -> Crossings.alone(1, 1, 1, 0), x -> x.inRound(1));
        Refused.bounds("inRound, 0 of none", () -> Crossings.phases(3, 1, 1, 0), x -> x.inRound(0));
    }

    private static void nothingTold() {
        for (int number : new int[] {-1, 0, 1, MIN, MAX}) {
            Refused.bounds("meet, nothing told", Intergreen::new, x -> x.meet(number, number, 1, 1));
            Refused.bounds("start, nothing told", Intergreen::new, x -> x.start(number));
            Refused.bounds("press, nothing told", Intergreen::new, x -> x.press(number));
            Refused.bounds("arrive, nothing told", Intergreen::new, x -> x.arrive(number, 1));
            Refused.bounds("ask, nothing told", Intergreen::new, x -> x.ask(number));
            Refused.bounds("breaks, nothing told", Intergreen::new, x -> x.breaks(number, 0, true));
            Refused.bounds("lamp, nothing told", Intergreen::new, x -> x.lamp(number, 0));
            Refused.bounds("ofPhase, nothing told", Intergreen::new, x -> x.ofPhase(number, 0));
            Refused.bounds("seen, nothing told", Intergreen::new, x -> x.seen(number, 0));
            Refused.bounds("change, nothing told", Intergreen::new, x -> x.change(number, 0));
            Refused.bounds("inRound, nothing told", Intergreen::new, x -> x.inRound(number));
        }
    }
}
