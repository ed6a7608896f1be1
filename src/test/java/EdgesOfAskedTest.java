/** The boundary cases of 'A second', steps 5 to 7, and of the promises 13 to 17, on the side that is allowed. */
final class EdgesOfAskedTest {
    private EdgesOfAskedTest() {
    }

    public static void main(String[] args) {
        askingChangesNothing();
        eachLampOfItsColour();
        brokenAndMendedBetweenSeconds();
        darkIfStoppedOrFlashing();
        logOfTheFirstAndTheLastSecond();
        logOfEightPhases();
        greenAndRestGoOn();
        oneVehicleASecond();
        vehiclesOfNoneButGreen();
        restAsOneGoes();
        waitsIfDemandedAlone();
        waitsInEachWay();
        waitIs0AsItBecomesGreen();
        longestWait();
        longestWaitOfAll();
        toldOfPhasesThatAreNotGreen();
        toldOfTheStage();
        delayBehindTheOneThatWent();
        delayOfEachQueue();
        greatestDelay();
        delayEachOfNone();
        delayEachAsAFloat();
        Check.end();
    }

    /** "lamps, waits, delays and rounds are asked, which changes nothing" */
    private static void askingChangesNothing() {
        for (Started started : Started.values()) {
            Intergreen asked = started.make();
            Intergreen left = started.make();
            Check.text(started + ", twice the same", Account.of(asked), Account.of(asked));
            Check.text(started + ", going on", Account.goingOn(asked), Account.goingOn(left));
        }
        Intergreen asked = waited();
        Intergreen left = waited();
        Check.text("waited, twice the same", Account.of(asked), Account.of(asked));
        Check.text("waited, going on", Account.goingOn(asked), Account.goingOn(left));
    }

    /** Three phases that waited for longer than they do now, and greens that were seen. */
    private static Intergreen waited() {
        Intergreen x = Crossings.alone(3, 1, 9, 2);
        x.meet(0, 1, 3, 4);
        x.arrive(0, 9);
        x.press(1);
        x.go(4);
        x.start(0);
        x.go(5);
        x.ask(1);
        x.go(6);
        x.cancel();
        x.arrive(2, 1);
        x.go(2);
        return x;
    }

    /** "DARK, if ... the lamp of its colour is broken, otherwise its colour" */
    private static void eachLampOfItsColour() {
        String[] due = {"GGAAA--", "--AAARR", "GG---RR"};
        for (int colour = Intergreen.RED; colour <= Intergreen.AMBER; colour++) {
            Intergreen x = Crossings.alone(2, 2, 9, 0);
            x.breaks(0, colour, true);
            x.start(0);
            x.press(1);
            x.go(7);
            Check.text("broken " + colour, Crossings.shown(x, 0), due[colour]);
            Check.text("the other phase's are whole", Crossings.shown(x, 1), "RRGGGGG");
            Check.same("it is RED all the same", x.ofPhase(0, 0), Intergreen.RED);
        }
    }

    private static void brokenAndMendedBetweenSeconds() {
        Intergreen x = Crossings.alone(1, 2, 9, 0);
        x.start(0);
        x.go(1);
        x.breaks(0, Intergreen.GREEN, true);
        x.go(1);
        x.breaks(0, Intergreen.GREEN, false);
        x.go(1);
        x.breaks(0, Intergreen.GREEN, true);
        x.breaks(0, Intergreen.GREEN, false);
        x.go(1);
        Check.text("as it was when each second went by", Crossings.shown(x, 0), "G-GG");
        Check.same("GREEN all the while", x.ofPhase(0, 1), 4);
    }

    private static void darkIfStoppedOrFlashing() {
        Intergreen x = Crossings.two();
        x.go(1);
        x.start(0);
        x.go(1);
        x.breaks(1, Intergreen.RED, true);
        x.go(2);
        x.breaks(1, Intergreen.RED, false);
        x.stop();
        x.go(1);
        x.start(0);
        x.go(1);
        Check.text("the one that was GREEN", Crossings.shown(x, 0), "-G---G");
        Check.text("the one that was RED", Crossings.shown(x, 1), "-R---R");
    }

    /** "second: 0 to that of now, less 1" */
    private static void logOfTheFirstAndTheLastSecond() {
        Intergreen x = Crossings.two();
        x.start(0);
        x.go(1);
        Check.same("the second 0", x.lamp(0, 0), Intergreen.GREEN);
        x.stop();
        Crossings.goAllBut(x, 1);
        x.start(0);
        x.go(1);
        Check.same("the second 0, at the end", x.lamp(0, 0), Intergreen.GREEN);
        Check.same("the second 1", x.lamp(0, 1), Intergreen.DARK);
        Check.same("the second 4998", x.lamp(0, 4998), Intergreen.DARK);
        Check.same("the second 4999", x.lamp(0, 4999), Intergreen.GREEN);
        Check.same("the second 4999, the other", x.lamp(1, 4999), Intergreen.RED);
    }

    /** Each of eight shows its own: one GREEN, one AMBER, one broken, the others RED. */
    private static void logOfEightPhases() {
        for (int phase = 0; phase < 8; phase++) {
            int next = (phase + 1) % 8;
            int broken = (phase + 2) % 8;
            Intergreen x = Crossings.phases(8, 1, 9, 0);
            x.stage(1 << phase);
            x.stage(1 << next);
            x.breaks(broken, Intergreen.RED, true);
            x.start(0);
            x.press(next);
            x.go(2);
            for (int number = 0; number < 8; number++) {
                String due = number == phase ? "GA" : number == next ? "RG" : number == broken ? "--" : "RR";
                Check.text("phase " + number + ", from " + phase, Crossings.shown(x, number), due);
            }
        }
    }

    /** "if it is GREEN, its green becomes 1 more, its rest 1 less, if it is above 0" */
    private static void greenAndRestGoOn() {
        for (int gap : new int[] {0, 1, 2, 10}) {
            Intergreen x = Crossings.alone(1, 1, 3, gap);
            x.start(0);
            for (int second = 1; second <= 13; second++) {
                x.go(1);
                Check.same("green", x.ofPhase(0, 1), second);
                Check.same("rest of " + gap, x.ofPhase(0, 2), Math.max(0, gap - second));
            }
        }
    }

    /** "and if it has a queue, one vehicle goes": of one, and of none. */
    private static void oneVehicleASecond() {
        Intergreen x = Crossings.alone(1, 1, 9, 0);
        x.start(0);
        Check.same("of none", x.go(1), 0);
        x.arrive(0, 2);
        Check.same("of two", x.go(1), 1);
        Check.same("one is left", x.ofPhase(0, 3), 1);
        Check.same("of one", x.go(1), 1);
        Check.same("none is left", x.ofPhase(0, 3), 0);
        Check.same("of none", x.go(1), 0);
        Check.same("in all", x.of(4), 2);
    }

    private static void vehiclesOfNoneButGreen() {
        Intergreen x = Crossings.alone(3, 1, 9, 0);
        for (int phase = 0; phase < 3; phase++) {
            x.arrive(phase, 50);
        }
        Check.same("STOPPED", x.go(1), 0);
        x.start(0);
        Check.same("ON", x.go(1), 1);
        x.ask(1);
        x.go(1);
        Check.same("one went while GREEN", x.ofPhase(0, 3), 49);
        Check.same("one went in its first second", x.ofPhase(1, 3), 49);
        x.go(2);
        Check.same("none while AMBER", x.ofPhase(0, 3), 49);
        Check.same("none while RED", x.ofPhase(2, 3), 50);
        x.stop();
        Check.same("none while STOPPED", x.go(9), 0);
    }

    /** "one vehicle goes, and its rest is its gap": not as one comes. */
    private static void restAsOneGoes() {
        Intergreen x = Crossings.alone(1, 1, 9, 10);
        x.start(0);
        x.go(4);
        x.arrive(0, 1);
        Check.same("as it comes", x.ofPhase(0, 2), 6);
        x.go(1);
        Check.same("as it goes", x.ofPhase(0, 2), 10);
        x.go(1);
        Check.same("a second later", x.ofPhase(0, 2), 9);
        x.go(9);
        x.arrive(0, 2);
        Check.same("0", x.ofPhase(0, 2), 0);
        x.go(2);
        Check.same("from 0 on", x.ofPhase(0, 2), 10);
    }

    /** "If it is not GREEN, and DEMANDED, its wait becomes 1 more." */
    private static void waitsIfDemandedAlone() {
        Intergreen x = Crossings.alone(2, 1, 9, 0);
        x.start(0);
        x.arrive(0, 50);
        x.go(3);
        Check.same("GREEN with a queue", x.ofPhase(0, 4), 0);
        Check.same("RED, not DEMANDED", x.ofPhase(1, 4), 0);
        x.breaks(1, Intergreen.GREEN, true);
        x.go(1);
        Check.same("broken, not DEMANDED", x.ofPhase(1, 4), 0);
        x.ask(0);
        x.press(1);
        Check.same("no second yet", x.ofPhase(1, 4), 0);
        x.go(1);
        Check.same("RED, by its button", x.ofPhase(1, 4), 1);
        x.arrive(1, 1);
        x.go(1);
        Check.same("RED, by both: 1 more alone", x.ofPhase(1, 4), 2);
        x.cancel();
        x.go(1);
        Check.same("AMBER, by its queue", x.ofPhase(0, 4), 1);
    }

    private static void waitsInEachWay() {
        for (Started started : Started.values()) {
            Intergreen x = started.make();
            x.ask(0);
            x.arrive(1, 1);
            int before = x.ofPhase(1, 4);
            x.go(1);
            Check.same("the wait, " + started, x.ofPhase(1, 4), before + 1);
            Check.same("the longest, " + started, x.ofPhase(1, 5), before + 1);
        }
    }

    /** "The wait of a PHASE becomes 0 as it becomes GREEN." */
    private static void waitIs0AsItBecomesGreen() {
        Intergreen x = Crossings.alone(2, 1, 9, 0);
        x.arrive(0, 3);
        x.go(7);
        Check.same("7", x.ofPhase(0, 4), 7);
        x.start(0);
        Check.same("not by the start", x.ofPhase(0, 4), 7);
        x.go(1);
        Check.same("GREEN", x.ofPhase(0, 4), 0);
        Check.same("the longest stays", x.ofPhase(0, 5), 7);
        x.stop();
        x.go(2);
        Check.same("from 0 on, by those that are left", x.ofPhase(0, 4), 2);
    }

    /** "the longest wait that it ever had": a shorter one and one as long change nothing, one longer by 1 does. */
    private static void longestWait() {
        Intergreen x = Crossings.alone(1, 1, 9, 0);
        int[] waits = {3, 2, 3, 4, 1};
        int[] due = {3, 3, 3, 4, 4};
        for (int times = 0; times < waits.length; times++) {
            x.press(0);
            x.go(waits[times]);
            Check.same("a wait of " + waits[times], x.ofPhase(0, 4), waits[times]);
            Check.same("the longest", x.ofPhase(0, 5), due[times]);
            x.start(0);
            x.go(1);
            x.stop();
        }
    }

    private static void longestWaitOfAll() {
        Intergreen x = Crossings.alone(1, 1, 9, 0);
        x.press(0);
        Crossings.goAllBut(x, 0);
        Check.same("all seconds", x.ofPhase(0, 4), 5000);
        Check.same("the longest", x.ofPhase(0, 5), 5000);
    }

    /** "1 its green, 0 if it is not GREEN, 2 its rest, 0 if it is not GREEN" */
    private static void toldOfPhasesThatAreNotGreen() {
        Intergreen x = Crossings.alone(2, 1, 120, 10);
        x.start(0);
        x.go(3);
        Check.same("GREEN: its green", x.ofPhase(0, 1), 3);
        Check.same("GREEN: its rest", x.ofPhase(0, 2), 7);
        x.ask(1);
        for (int second = 0; second < 5; second++) {
            x.go(1);
            int due = second < 3 ? Intergreen.AMBER : Intergreen.RED;
            Check.same("AMBER, then RED", x.ofPhase(0, 0), due);
            Check.same("no green", x.ofPhase(0, 1), 0);
            Check.same("no rest", x.ofPhase(0, 2), 0);
        }
        x.stop();
        Check.same("no green, stopped", x.ofPhase(1, 1), 0);
        Check.same("no rest, stopped", x.ofPhase(1, 2), 0);
    }

    /** "1 the STAGE with which they are ON, or to which they are CHANGING, otherwise NONE" */
    private static void toldOfTheStage() {
        int[] due = {1, 0, Intergreen.NONE, Intergreen.NONE};
        int[] modes = {Intergreen.CHANGING, Intergreen.ON, Intergreen.FLASHING, Intergreen.STOPPED};
        for (Started started : Started.values()) {
            Crossings.stands("told", started.make(), modes[started.ordinal()], due[started.ordinal()]);
        }
    }

    /** "The delay becomes more by all queues, as they are then." */
    private static void delayBehindTheOneThatWent() {
        Intergreen x = Crossings.alone(1, 1, 9, 0);
        x.start(0);
        x.go(1);
        Check.same("no queue", x.delay(), 0);
        x.arrive(0, 1);
        x.go(1);
        Check.same("one, that went", x.delay(), 0);
        x.arrive(0, 2);
        x.go(1);
        Check.same("two, of which one went", x.delay(), 1);
        x.go(5);
        Check.same("the other one went", x.delay(), 1);
        x.stop();
        x.arrive(0, 1);
        x.go(1);
        Check.same("one that stays", x.delay(), 2);
    }

    private static void delayOfEachQueue() {
        for (int phase = 0; phase < 8; phase++) {
            Intergreen x = Crossings.phases(8, 1, 9, 0);
            x.arrive(phase, 3);
            x.go(2);
            Check.same("the queue of " + phase, x.delay(), 6);
            x.arrive(7 - phase, 1);
            x.go(1);
            Check.same("and one of another", x.delay(), 10);
        }
        Intergreen flashing = Started.FLASHING.make();
        long before = flashing.delay();
        flashing.arrive(1, 5);
        flashing.go(2);
        Check.same("while FLASHING", flashing.delay(), before + 10);
    }

    /** 8 queues of 1000 for 5000 seconds. */
    private static void greatestDelay() {
        Intergreen x = Crossings.phases(8, 1, 9, 0);
        for (int phase = 0; phase < 8; phase++) {
            Crossings.fill(x, phase);
        }
        Crossings.goAllBut(x, 0);
        Check.same("delay", x.delay(), 40000000);
        Check.same("none went", x.delayEach(), 0);
    }

    /** "0 if none went", though there is a delay; and 0 if one went at once. */
    private static void delayEachOfNone() {
        Intergreen x = Crossings.alone(1, 1, 9, 0);
        Check.same("no delay, none went", x.delayEach(), 0);
        x.start(0);
        x.arrive(0, 1);
        x.go(1);
        Check.same("no delay, one went", x.delayEach(), 0);
        Intergreen stopped = Crossings.alone(1, 1, 9, 0);
        stopped.arrive(0, 1);
        stopped.go(3);
        Check.same("a delay", stopped.delay(), 3);
        Check.same("a delay, none went", stopped.delayEach(), 0);
        stopped.start(0);
        stopped.go(1);
        Check.same("one went", stopped.delayEach(), 3);
    }

    /** "the delay as a float, divided by the vehicles that went, as a float" */
    private static void delayEachAsAFloat() {
        Intergreen x = Crossings.alone(1, 1, 9, 0);
        x.arrive(0, 3);
        x.start(0);
        x.go(2);
        Check.same("3 of 2", x.delayEach(), 1.5f);
        x.go(1);
        Check.same("3 of 3", x.delayEach(), 1);
        x.stop();
        x.arrive(0, 1);
        x.go(1);
        Check.same("4 of 3", x.delayEach(), 4f / 3f);

        Intergreen large = Crossings.alone(6, 1, 9, 0);
        for (int phase = 0; phase < 6; phase++) {
            Crossings.fill(large, phase);
        }
        Crossings.goAllBut(large, 9);
        large.start(0);
        large.go(9);
        Check.same("delay", large.delay(), 29999955);
        Check.same("went", large.of(4), 9);
        Check.same("rounded ahead of dividing", large.delayEach(), 29999955f / 9f);
        Check.same("not divided ahead of rounding", large.delayEach() == (float) (29999955d / 9d), false);
    }
}
