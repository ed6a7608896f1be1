/** Promises 13 to 18: the log, what is told of phases and lights, delays, what was seen. */
final class AskedTest {
    private static final int MIN = Integer.MIN_VALUE;
    private static final int MAX = Integer.MAX_VALUE;

    private AskedTest() {
    }

    public static void main(String[] args) {
        promise13();
        promise13OfEight();
        promise14();
        promise15();
        promise16();
        promise17();
        promise18();
        promise18FromTheLogAlone();
        promise18Least();
        promise18TheSecond0();
        Check.end();
    }

    private static void promise13() {
        Intergreen x = Crossings.two();
        Check.bounds("no second yet", () -> x.lamp(0, 0));
        x.go(1);
        Check.bounds("phase -1", () -> x.lamp(-1, 0));
        Check.bounds("phase 2", () -> x.lamp(2, 0));
        Check.bounds("second -1", () -> x.lamp(0, -1));
        Check.bounds("second 1", () -> x.lamp(0, 1));
        Check.bounds("second MAX", () -> x.lamp(0, MAX));
        Check.bounds("second MIN", () -> x.lamp(0, MIN));
        Check.same("stopped", x.lamp(0, 0), Intergreen.DARK);
        x.phase(1, 1, 0);
        Check.same("told later", x.lamp(2, 0), Intergreen.DARK);
        x.start(0);
        x.go(2);
        Check.same("green", x.lamp(0, 1), Intergreen.GREEN);
        Check.same("red", x.lamp(1, 2), Intergreen.RED);
        x.breaks(0, Intergreen.GREEN, true);
        x.go(2);
        x.breaks(0, Intergreen.GREEN, false);
        x.press(1);
        x.go(2);
        Check.same("what was shown stays", x.lamp(0, 2), Intergreen.GREEN);
        Check.same("broken", x.lamp(0, 3), Intergreen.DARK);
        Check.same("broken", x.lamp(0, 4), Intergreen.DARK);
        Check.same("mended", x.lamp(0, 5), Intergreen.GREEN);
        Check.same("amber", x.lamp(0, 6), Intergreen.AMBER);
    }

    private static void promise13OfEight() {
        Intergreen x = new Intergreen();
        for (int number = 0; number < 8; number++) {
            x.phase(1, 1, 0);
        }
        x.stage(0xA5);
        x.stage(0x5A);
        x.start(0);
        x.press(1);
        x.go(2);
        for (int number = 0; number < 8; number++) {
            boolean isFirst = (0xA5 >> number & 1) != 0;
            Check.same("phase " + number, x.lamp(number, 0), isFirst ? Intergreen.GREEN : Intergreen.RED);
            Check.same("phase " + number, x.lamp(number, 1), isFirst ? Intergreen.AMBER : Intergreen.GREEN);
        }
    }

    private static void promise14() {
        Intergreen x = Crossings.two();
        Check.bounds("phase -1", () -> x.ofPhase(-1, 0));
        Check.bounds("phase 2", () -> x.ofPhase(2, 0));
        Check.bounds("phase 2, what 7", () -> x.ofPhase(2, 7));
        Check.argument("what -1", () -> x.ofPhase(0, -1));
        Check.argument("what 7", () -> x.ofPhase(0, 7));
        Check.argument("what MAX", () -> x.ofPhase(0, MAX));
        x.start(0);
        x.arrive(1, 4);
        x.arrive(0, 4);
        x.go(3);
        tells(x, 0, Intergreen.GREEN, 3, 2, 1, 0, 0, 0);
        tells(x, 1, Intergreen.RED, 0, 0, 4, 3, 3, 1);
        x.go(4);
        tells(x, 0, Intergreen.AMBER, 0, 0, 0, 0, 0, 0);
        x.go(4);
        tells(x, 0, Intergreen.RED, 0, 0, 0, 0, 0, 0);
        tells(x, 1, Intergreen.GREEN, 1, 0, 3, 0, 10, 0);
        Check.same("a green one with a queue is not demanded", x.ofPhase(1, 6), 0);
    }

    private static void tells(Intergreen x, int phase, int... due) {
        for (int what = 0; what < due.length; what++) {
            Check.same("ofPhase(" + phase + ", " + what + ")", x.ofPhase(phase, what), due[what]);
        }
    }

    private static void promise15() {
        Intergreen x = Crossings.two();
        Check.argument("what -1", () -> x.of(-1));
        Check.argument("what 5", () -> x.of(5));
        Check.argument("what MIN", () -> x.of(MIN));
        x.go(7);
        x.arrive(1, 2);
        x.ask(1);
        x.start(1);
        Check.same("changing", x.of(0), Intergreen.CHANGING);
        Check.same("to 1", x.of(1), 1);
        Check.same("now", x.of(2), 7);
        Check.same("asked", x.of(3), 1);
        Check.same("gone", x.of(4), 0);
        x.go(3);
        Check.same("on", x.of(0), Intergreen.ON);
        Check.same("with 1", x.of(1), 1);
        Check.same("now", x.of(2), 10);
        Check.same("gone", x.of(4), 2);
        x.cancel();
        Check.same("asked", x.of(3), Intergreen.NONE);
    }

    private static void promise16() {
        Intergreen x = Crossings.two();
        x.arrive(0, 50);
        for (int more = 0; more < 19; more++) {
            x.arrive(0, 50);
        }
        x.go(1000);
        Check.same("a thousand for a thousand seconds", x.delay(), 1000000);
        for (int more = 0; more < 20; more++) {
            x.arrive(1, 50);
        }
        x.go(1000);
        Check.same("by all queues", x.delay(), 3000000);
        Check.same("asking changes nothing", x.delay(), 3000000);
    }

    private static void promise17() {
        Intergreen x = Crossings.two();
        x.arrive(0, 4);
        x.go(1);
        Check.same("none went", x.delayEach(), 0);
        x.start(0);
        x.go(3);
        Check.same("delay", x.delay(), 10);
        Check.same("as floats", x.delayEach(), 10f / 3f);
        Check.same("not as integers", x.delayEach() > 3.33f && x.delayEach() < 3.34f, true);

        Intergreen large = new Intergreen();
        for (int number = 0; number < 8; number++) {
            large.phase(1, 1, 0);
            for (int more = 0; more < 20; more++) {
                large.arrive(number, 50);
            }
        }
        large.stage(1);
        for (int times = 0; times < 4; times++) {
            large.go(1000);
        }
        large.go(999);
        large.start(0);
        large.go(1);
        Check.same("delay", large.delay(), 39999999);
        Check.same("rounded to a float", large.delayEach(), 40000000);
    }

    private static void promise18() {
        Intergreen x = Crossings.two();
        Check.bounds("one -1", () -> x.seen(-1, 0));
        Check.bounds("one 2", () -> x.seen(2, 0));
        Check.bounds("other -1", () -> x.seen(0, -1));
        Check.bounds("other 2", () -> x.seen(0, 2));
        Check.bounds("both 2", () -> x.seen(2, 2));
        Check.argument("the same", () -> x.seen(1, 1));
        Check.same("nothing shown", x.seen(0, 1), Intergreen.NONE);
        x.start(0);
        x.go(1);
        Check.same("the other never green", x.seen(0, 1), Intergreen.NONE);
        Check.same("the one never green ahead", x.seen(1, 0), Intergreen.NONE);
        x.press(1);
        x.go(8);
        Check.same("not yet", x.seen(0, 1), Intergreen.NONE);
        x.go(1);
        Check.same("4 lie between 4 and 9", x.seen(0, 1), 4);
        Check.same("0 was not green behind 1", x.seen(1, 0), Intergreen.NONE);
        x.press(0);
        x.go(10);
        Check.same("back", x.seen(1, 0), 6);
        Check.same("there as it was", x.seen(0, 1), 4);
    }

    private static void promise18FromTheLogAlone() {
        Intergreen x = new Intergreen();
        x.phase(1, 120, 0);
        x.phase(1, 120, 0);
        x.stage(3);
        x.start(0);
        x.go(3);
        Check.same("both began at once", x.seen(0, 1), Intergreen.NONE);
        x.breaks(1, Intergreen.GREEN, true);
        x.go(2);
        x.breaks(1, Intergreen.GREEN, false);
        x.breaks(0, Intergreen.GREEN, true);
        x.go(4);
        Check.same("shown green anew in 5, the one in 4", x.seen(0, 1), 0);
        Check.same("the one did not begin anew", x.seen(1, 0), Intergreen.NONE);
        x.breaks(1, Intergreen.GREEN, true);
        x.go(1);
        x.breaks(0, Intergreen.GREEN, false);
        x.go(1);
        Check.same("the one shown in 10, the other last in 8", x.seen(1, 0), 1);
    }

    private static void promise18Least() {
        Intergreen x = Crossings.two();
        x.start(0);
        x.go(1);
        x.stop();
        x.go(20);
        x.start(1);
        x.go(2);
        Check.same("20 between 0 and 21", x.seen(0, 1), 20);
        x.stop();
        x.go(8);
        x.start(0);
        x.go(2);
        x.stop();
        x.go(9);
        x.start(1);
        x.go(1);
        Check.same("9 are fewer", x.seen(0, 1), 9);
        Check.same("8 the other way", x.seen(1, 0), 8);
        x.stop();
        x.go(30);
        x.start(0);
        x.go(1);
        Check.same("30 are more", x.seen(1, 0), 8);
        x.stop();
        x.start(0);
        x.go(1);
        Check.same("green all through in the log", x.seen(1, 0), 8);
    }

    private static void promise18TheSecond0() {
        Intergreen x = Crossings.two();
        x.start(1);
        x.go(1);
        x.stop();
        x.start(0);
        x.go(7);
        x.stop();
        Check.same("6 lie between 0 and 7", x.seen(1, 0), 6);
        Check.same("1 began in the second 0, ahead of which nothing was", x.seen(0, 1), Intergreen.NONE);
    }
}
