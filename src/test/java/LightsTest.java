/** Promises 5 to 12: what is done to the lights by calls. */
final class LightsTest {
    private static final int MIN = Integer.MIN_VALUE;
    private static final int MAX = Integer.MAX_VALUE;

    private LightsTest() {
    }

    public static void main(String[] args) {
        promise5();
        promise6();
        promise6EndsGreens();
        promise7();
        promise8();
        promise9And10();
        promise11();
        promise12();
        Check.end();
    }

    private static void promise5() {
        Intergreen x = Crossings.two();
        Check.bounds("start(-1)", () -> x.start(-1));
        Check.bounds("start(2)", () -> x.start(2));
        Check.bounds("start(MAX)", () -> x.start(MAX));
        Check.same("still stopped", x.of(0), Intergreen.STOPPED);
        Check.same("a phase more", x.phase(1, 1, 0), 2);
        x.start(1);
        Check.same("changing", x.of(0), Intergreen.CHANGING);
        Check.same("to it", x.of(1), 1);
        Check.state("start while changing", () -> x.start(0));
        Check.bounds("no such stage, while changing", () -> x.start(2));
        x.go(1);
        Check.same("on", x.of(0), Intergreen.ON);
        Check.same("with it", x.of(1), 1);
        Check.state("start while on", () -> x.start(0));
        x.stop();
        x.start(0);
        Check.same("changing again", x.of(0), Intergreen.CHANGING);
        Check.same("to another", x.of(1), 0);
    }

    private static void promise6() {
        Intergreen x = Crossings.two();
        Check.state("stop at first", x::stop);
        x.start(0);
        x.stop();
        Check.same("stopped while changing", x.of(0), Intergreen.STOPPED);
        Check.same("no stage", x.of(1), Intergreen.NONE);
        Check.state("stop twice", x::stop);
        x.start(0);
        x.go(2);
        x.ask(1);
        x.press(1);
        x.stop();
        Check.same("red", x.ofPhase(0, 0), Intergreen.RED);
        Check.same("green 0", x.ofPhase(0, 1), 0);
        Check.same("rest 0", x.ofPhase(0, 2), 0);
        Check.same("the tram stays", x.of(3), 1);
        Check.same("the button stays", x.ofPhase(1, 6), 1);
        x.go(2);
        Check.same("waits while stopped", x.ofPhase(1, 4), 2);
        Check.same("dark while stopped", x.lamp(0, 3), Intergreen.DARK);
        Check.same("green ahead of it", x.lamp(0, 1), Intergreen.GREEN);
    }

    private static void promise6EndsGreens() {
        Intergreen x = Crossings.two();
        x.start(0);
        x.go(3);
        x.stop();
        x.go(1);
        x.start(1);
        x.go(3);
        Check.same("not yet 4 seconds behind the end", x.ofPhase(1, 0), Intergreen.RED);
        Check.same("changing", x.of(0), Intergreen.CHANGING);
        x.go(1);
        Check.same("4 seconds behind the end, in the second 7", x.ofPhase(1, 0), Intergreen.GREEN);
        Check.same("seen", x.seen(0, 1), 4);

        Intergreen amber = Crossings.two();
        amber.start(0);
        amber.press(1);
        amber.go(6);
        Check.same("amber in the second 5", amber.ofPhase(0, 0), Intergreen.AMBER);
        amber.go(1);
        amber.stop();
        Check.same("red at once", amber.ofPhase(0, 0), Intergreen.RED);
        amber.start(1);
        amber.go(2);
        Check.same("not in the second 8", amber.ofPhase(1, 0), Intergreen.RED);
        amber.go(1);
        Check.same("its green ended when it became amber", amber.ofPhase(1, 0), Intergreen.GREEN);
    }

    private static void promise7() {
        Intergreen x = Crossings.two();
        Check.bounds("press(-1)", () -> x.press(-1));
        Check.bounds("press(2)", () -> x.press(2));
        Check.bounds("press(MIN)", () -> x.press(MIN));
        Check.same("press while stopped", x.press(0), true);
        Check.same("demanded", x.ofPhase(0, 6), 1);
        x.start(0);
        x.go(1);
        Check.same("green: not demanded", x.ofPhase(0, 6), 0);
        Check.same("press while green", x.press(0), false);
        x.arrive(0, 9);
        Check.same("press while green, with a queue", x.press(0), false);
        x.go(9);
        x.stop();
        Check.same("a press while green is nothing later", x.ofPhase(0, 6), 0);
        Check.same("press while red", x.press(0), true);
        Check.same("press twice", x.press(0), true);
        x.start(0);
        x.go(1);
        x.stop();
        Check.same("green took the button", x.ofPhase(0, 6), 0);
    }

    private static void promise8() {
        Intergreen x = Crossings.two();
        Check.bounds("arrive(-1, 1)", () -> x.arrive(-1, 1));
        Check.bounds("arrive(2, 1)", () -> x.arrive(2, 1));
        Check.bounds("arrive(2, 0)", () -> x.arrive(2, 0));
        Check.argument("arrive(0, 0)", () -> x.arrive(0, 0));
        Check.argument("arrive(0, 51)", () -> x.arrive(0, 51));
        Check.argument("arrive(0, MAX)", () -> x.arrive(0, MAX));
        Check.argument("arrive(0, MIN)", () -> x.arrive(0, MIN));
        Check.same("one", x.arrive(0, 1), 1);
        Check.same("fifty", x.arrive(0, 50), 51);
        Check.same("demanded", x.ofPhase(0, 6), 1);
        Check.same("the other has none", x.ofPhase(1, 3), 0);
        for (int queue = 101; queue <= 951; queue += 50) {
            Check.same("more", x.arrive(0, 50), queue);
        }
        Check.state("1001", () -> x.arrive(0, 50));
        Check.argument("1002 by too many", () -> x.arrive(0, 51));
        Check.same("1000", x.arrive(0, 49), 1000);
        Check.state("1001 by one", () -> x.arrive(0, 1));
        Check.same("nothing changed", x.ofPhase(0, 3), 1000);
        Check.same("the other may", x.arrive(1, 1), 1);
        x.start(0);
        x.go(1);
        Check.same("one gone", x.ofPhase(0, 3), 999);
        Check.same("one comes again", x.arrive(0, 1), 1000);
    }

    private static void promise9And10() {
        Intergreen x = Crossings.two();
        Check.bounds("ask(-1)", () -> x.ask(-1));
        Check.bounds("ask(2)", () -> x.ask(2));
        Check.state("cancel nothing", x::cancel);
        x.ask(1);
        Check.same("asked", x.of(3), 1);
        Check.state("ask again", () -> x.ask(1));
        Check.state("ask for another", () -> x.ask(0));
        Check.bounds("ask for none, while asked", () -> x.ask(2));
        Check.same("not demanded by that", x.ofPhase(1, 6), 0);
        Check.same("cancel", x.cancel(), 1);
        Check.same("none asked", x.of(3), Intergreen.NONE);
        Check.state("cancel twice", x::cancel);
        x.ask(0);
        Check.same("asked for 0", x.of(3), 0);
        x.start(0);
        x.go(20);
        Check.same("not cancelled by its green", x.of(3), 0);
        Check.same("cancel 0", x.cancel(), 0);
    }

    private static void promise11() {
        Intergreen x = Crossings.two();
        Check.bounds("breaks(-1, ..)", () -> x.breaks(-1, 0, true));
        Check.bounds("breaks(2, ..)", () -> x.breaks(2, 0, true));
        Check.bounds("breaks(2, 3, ..)", () -> x.breaks(2, 3, true));
        Check.argument("colour -1", () -> x.breaks(0, -1, true));
        Check.argument("DARK", () -> x.breaks(0, Intergreen.DARK, true));
        Check.argument("colour 32", () -> x.breaks(0, 32, true));
        for (int colour = Intergreen.RED; colour <= Intergreen.AMBER; colour++) {
            Check.same("was whole", x.breaks(0, colour, false), false);
            Check.same("was whole, breaks", x.breaks(0, colour, true), false);
            Check.same("was broken, still", x.breaks(0, colour, true), true);
        }
        Check.same("mended", x.breaks(0, Intergreen.GREEN, false), true);
        Check.same("was mended", x.breaks(0, Intergreen.GREEN, false), false);
        Check.same("another colour is as it was", x.breaks(0, Intergreen.AMBER, true), true);
        Check.same("another colour is as it was", x.breaks(0, Intergreen.RED, false), true);
        Check.same("another phase is whole", x.breaks(1, Intergreen.AMBER, false), false);
        x.start(0);
        x.press(1);
        x.go(6);
        Check.same("green was mended", x.lamp(0, 0), Intergreen.GREEN);
        Check.same("amber is broken", x.lamp(0, 5), Intergreen.DARK);
        Check.same("it is amber all the same", x.ofPhase(0, 0), Intergreen.AMBER);
    }

    private static void promise12() {
        Intergreen x = Crossings.two();
        Check.argument("go(0)", () -> x.go(0));
        Check.argument("go(1001)", () -> x.go(1001));
        Check.argument("go(MIN)", () -> x.go(MIN));
        Check.argument("go(MAX)", () -> x.go(MAX));
        x.arrive(0, 3);
        Check.same("none goes while stopped", x.go(2), 0);
        x.start(0);
        Check.same("two go", x.go(2), 2);
        Check.same("the last one goes", x.go(5), 1);
        Check.same("nobody", x.go(1), 0);
        Check.same("second", x.of(2), 10);
        for (int second = 1010; second <= 4010; second += 1000) {
            x.go(1000);
            Check.same("second", x.of(2), second);
        }
        Check.state("5010", () -> x.go(1000));
        Check.state("5001", () -> x.go(991));
        Check.argument("1001, late", () -> x.go(1001));
        Check.same("5000", x.go(990), 0);
        Check.same("second", x.of(2), 5000);
        Check.state("5001 by one", () -> x.go(1));
        Check.argument("none, at the end", () -> x.go(0));
        Check.same("the last second", x.lamp(0, 4999), Intergreen.GREEN);
        Check.bounds("no second 5000", () -> x.lamp(0, 5000));
        x.stop();
        Check.same("stop at the end", x.of(0), Intergreen.STOPPED);

        Intergreen stopped = Crossings.two();
        for (int times = 0; times < 5; times++) {
            stopped.go(1000);
        }
        Check.same("the last second, stopped", stopped.lamp(1, 4999), Intergreen.DARK);
        stopped.start(0);
        Check.same("a start at the end", stopped.of(0), Intergreen.CHANGING);
    }
}
