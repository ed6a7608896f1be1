/** Promises 1 to 4: a new object, phases, two that meet, stages. */
final class PhasesAndStagesTest {
    private static final int MIN = Integer.MIN_VALUE;
    private static final int MAX = Integer.MAX_VALUE;

    private PhasesAndStagesTest() {
    }

    public static void main(String[] args) {
        promise1();
        promise1WithoutPhases();
        promise2();
        promise2States();
        promise3();
        promise3States();
        promise3InPlace();
        promise4();
        promise4States();
        Check.end();
    }

    private static void promise1() {
        Intergreen x = new Intergreen();
        Check.same("of(0)", x.of(0), Intergreen.STOPPED);
        Check.same("of(1)", x.of(1), Intergreen.NONE);
        Check.same("of(2)", x.of(2), 0);
        Check.same("of(3)", x.of(3), Intergreen.NONE);
        Check.same("of(4)", x.of(4), 0);
        Check.same("delay", x.delay(), 0);
        Check.same("delayEach", x.delayEach(), 0);
        Check.same("round", x.round(), Intergreen.NONE);
        Check.same("roundAnew", x.roundAnew(), Intergreen.NONE);
        Check.state("cancel", x::cancel);
        Check.state("stop", x::stop);
    }

    private static void promise1WithoutPhases() {
        Intergreen x = new Intergreen();
        Check.bounds("ofPhase(0, 0)", () -> x.ofPhase(0, 0));
        Check.bounds("press(0)", () -> x.press(0));
        Check.bounds("arrive(0, 1)", () -> x.arrive(0, 1));
        Check.bounds("ask(0)", () -> x.ask(0));
        Check.bounds("breaks", () -> x.breaks(0, 0, true));
        Check.bounds("meet", () -> x.meet(0, 1, 1, 1));
        Check.bounds("seen", () -> x.seen(0, 0));
        Check.bounds("lamp", () -> x.lamp(0, 0));
        Check.bounds("start(0)", () -> x.start(0));
        Check.bounds("change(0, 0)", () -> x.change(0, 0));
        Check.bounds("inRound(0)", () -> x.inRound(0));
        Check.same("go without phases", x.go(5), 0);
        Check.same("of(2)", x.of(2), 5);
    }

    private static void promise2() {
        Intergreen x = new Intergreen();
        Check.argument("least 0", () -> x.phase(0, 1, 0));
        Check.argument("least 31", () -> x.phase(31, 40, 0));
        Check.argument("least MIN", () -> x.phase(MIN, 5, 0));
        Check.argument("most below least", () -> x.phase(5, 4, 0));
        Check.argument("most 121", () -> x.phase(5, 121, 0));
        Check.argument("most MAX", () -> x.phase(5, MAX, 0));
        Check.argument("gap -1", () -> x.phase(5, 6, -1));
        Check.argument("gap 11", () -> x.phase(5, 6, 11));
        Check.argument("gap MAX", () -> x.phase(5, 6, MAX));
        Check.same("lowest", x.phase(1, 1, 0), 0);
        Check.same("highest", x.phase(30, 120, 10), 1);
        Check.same("most is least", x.phase(30, 30, 3), 2);
        Check.same("at first RED", x.ofPhase(2, 0), Intergreen.RED);
        for (int what = 1; what <= 6; what++) {
            Check.same("at first, ofPhase " + what, x.ofPhase(2, what), 0);
        }
    }

    private static void promise2States() {
        Intergreen full = new Intergreen();
        for (int number = 0; number < 8; number++) {
            Check.same("phase " + number, full.phase(1, 2, 0), number);
        }
        Check.state("a ninth", () -> full.phase(1, 2, 0));
        Check.argument("a ninth, wrong too", () -> full.phase(0, 2, 0));
        Check.bounds("no ninth", () -> full.ofPhase(8, 0));

        Intergreen begun = new Intergreen();
        begun.phase(1, 1, 0);
        begun.stage(1);
        begun.go(3);
        Check.same("after seconds without start", begun.phase(1, 1, 0), 1);
        begun.start(0);
        Check.state("after start", () -> begun.phase(1, 1, 0));
        Check.argument("after start, wrong too", () -> begun.phase(1, 1, 11));
        begun.stop();
        Check.state("after stop", () -> begun.phase(1, 1, 0));
    }

    private static Intergreen three() {
        Intergreen x = new Intergreen();
        x.phase(1, 5, 0);
        x.phase(1, 5, 0);
        x.phase(1, 5, 0);
        return x;
    }

    private static void promise3() {
        Intergreen x = three();
        Check.bounds("one -1", () -> x.meet(-1, 1, 1, 1));
        Check.bounds("one 3", () -> x.meet(3, 1, 1, 1));
        Check.bounds("other -1", () -> x.meet(1, -1, 1, 1));
        Check.bounds("other 3", () -> x.meet(1, 3, 1, 1));
        Check.bounds("other MAX, there wrong too", () -> x.meet(1, MAX, 0, 1));
        Check.bounds("both the same and none", () -> x.meet(3, 3, 1, 1));
        Check.argument("the same", () -> x.meet(1, 1, 1, 1));
        Check.argument("there 0", () -> x.meet(0, 1, 0, 1));
        Check.argument("there 21", () -> x.meet(0, 1, 21, 1));
        Check.argument("back 0", () -> x.meet(0, 1, 1, 0));
        Check.argument("back 21", () -> x.meet(0, 1, 1, 21));
        Check.same("they do not meet yet", x.stage(3), 0);
        x.meet(0, 2, 1, 20);
        x.meet(1, 2, 20, 1);
        Check.state("one meets the other", () -> x.stage(5));
        Check.state("the other meets the one", () -> x.stage(6));
        x.stage(4);
        Check.same("there the most", x.change(0, 1), 20);
        Check.same("back the most", x.change(1, 0), 20);
    }

    private static void promise3States() {
        Intergreen x = three();
        x.stage(3);
        Check.state("a stage has both", () -> x.meet(0, 1, 1, 1));
        Check.state("a stage has both, turned round", () -> x.meet(1, 0, 1, 1));
        Check.argument("a stage has both, wrong too", () -> x.meet(1, 0, 1, 21));
        x.stage(4);
        x.meet(0, 2, 3, 4);
        Check.same("a stage each", x.change(0, 1), 3);
        x.start(0);
        Check.state("after start", () -> x.meet(0, 2, 1, 1));
        Check.argument("after start, wrong too", () -> x.meet(0, 0, 1, 1));
        Check.bounds("after start, none", () -> x.meet(0, 3, 1, 1));
        x.stop();
        Check.state("after stop", () -> x.meet(0, 2, 1, 1));
        Check.same("nothing changed", x.change(0, 1), 3);
    }

    private static void promise3InPlace() {
        Intergreen x = three();
        x.stage(1);
        x.stage(2);
        x.meet(0, 1, 9, 8);
        Check.same("there", x.change(0, 1), 9);
        Check.same("back", x.change(1, 0), 8);
        x.meet(1, 0, 2, 3);
        Check.same("in place, turned round", x.change(0, 1), 3);
        Check.same("in place, turned round, back", x.change(1, 0), 2);
    }

    private static void promise4() {
        Intergreen none = new Intergreen();
        Check.argument("a stage without phases told", () -> none.stage(1));
        Check.argument("an empty stage without phases told", () -> none.stage(0));
        Intergreen x = three();
        Check.argument("no phase", () -> x.stage(0));
        Check.argument("phase 3", () -> x.stage(8));
        Check.argument("phase 3 and others", () -> x.stage(15));
        Check.argument("phase 31", () -> x.stage(MIN));
        Check.argument("all bits", () -> x.stage(-1));
        Check.argument("phase 8", () -> x.stage(257));
        Check.same("the first", x.stage(7), 0);
        Check.same("the same again", x.stage(7), 1);
        Intergreen eight = new Intergreen();
        for (int number = 0; number < 8; number++) {
            eight.phase(number + 1, 100, 0);
        }
        Check.argument("phase 8 of eight", () -> eight.stage(256));
        Check.same("all eight", eight.stage(255), 0);
        Check.same("all eight are in it", eight.round(), 8);
    }

    private static void promise4States() {
        Intergreen x = three();
        x.meet(0, 2, 1, 1);
        Check.state("two meet", () -> x.stage(5));
        Check.state("two of three meet", () -> x.stage(7));
        Check.argument("two meet, wrong too", () -> x.stage(13));
        for (int number = 0; number < 6; number++) {
            Check.same("stage " + number, x.stage(3), number);
        }
        Check.state("a seventh", () -> x.stage(1));
        Check.argument("a seventh, wrong too", () -> x.stage(0));
        Check.bounds("no seventh", () -> x.change(6, 0));

        Intergreen begun = three();
        begun.stage(1);
        begun.start(0);
        Check.state("after start", () -> begun.stage(2));
        Check.argument("after start, wrong too", () -> begun.stage(0));
        begun.stop();
        Check.state("after stop", () -> begun.stage(2));
    }
}
