/** The boundary cases of 'THE LIGHTS' and of the promises 5 to 12, on the side that is allowed. */
final class EdgesOfLightsTest {
    private EdgesOfLightsTest() {
    }

    public static void main(String[] args) {
        startWithTheFirstAndTheLast();
        startFromEachWay();
        startAtTheEnd();
        stopFromEachWay();
        stopMakesEachRed();
        greenEndsInTheSecondOfNow();
        stopAheadOfAnyGreen();
        stopKeepsTheEndOfAnAmber();
        stopKeepsTheRest();
        flashingIsStopped();
        pressWhileEachColour();
        pressStaysUntilGreen();
        pressNeedsNoStage();
        demandedByAQueueOfOne();
        vehiclesAtTheEndsOfTheirRange();
        askForTheFirstAndTheLast();
        askedUntilCancelled();
        eachLampOfItsOwn();
        secondsAtTheEndsOfTheirRange();
        vehiclesThatWent();
        atTheEnd();
        Check.end();
    }

    private static void startWithTheFirstAndTheLast() {
        for (int stage : new int[] {0, 5}) {
            Intergreen x = Crossings.alone(6, 1, 1, 0);
            x.start(stage);
            Crossings.stands("started, no second gone by", x, Intergreen.CHANGING, stage);
            Check.same("RED until a second goes by", x.ofPhase(stage, 0), Intergreen.RED);
            x.go(1);
            Crossings.stands("one second gone by", x, Intergreen.ON, stage);
            Check.same("GREEN", x.ofPhase(stage, 0), Intergreen.GREEN);
        }
        Intergreen one = Crossings.alone(1, 1, 1, 0);
        one.start(0);
        Crossings.stands("the only one", one, Intergreen.CHANGING, 0);
    }

    /** "Throws IllegalStateException if they are CHANGING or ON": STOPPED and FLASHING they may be. */
    private static void startFromEachWay() {
        Intergreen stopped = Started.STOPPED.make();
        stopped.start(1);
        Crossings.stands("from STOPPED", stopped, Intergreen.CHANGING, 1);
        Intergreen flashing = Started.FLASHING.make();
        flashing.start(1);
        Crossings.stands("from FLASHING", flashing, Intergreen.CHANGING, 1);
        flashing.stop();
        flashing.start(0);
        Crossings.stands("from STOPPED behind FLASHING", flashing, Intergreen.CHANGING, 0);
    }

    private static void startAtTheEnd() {
        Intergreen x = Crossings.alone(2, 1, 1, 0);
        Crossings.goAllBut(x, 1);
        x.start(1);
        x.go(1);
        Crossings.stands("in the last second", x, Intergreen.ON, 1);
        Check.same("green in the last second", x.lamp(1, 4999), Intergreen.GREEN);
        Check.same("dark ahead of it", x.lamp(1, 4998), Intergreen.DARK);
        x.stop();
        x.start(0);
        Crossings.stands("behind the last second", x, Intergreen.CHANGING, 0);
    }

    private static void stopFromEachWay() {
        for (Started started : new Started[] {Started.CHANGING, Started.ON, Started.FLASHING}) {
            Intergreen x = started.make();
            x.stop();
            Crossings.stands("from " + started, x, Intergreen.STOPPED, Intergreen.NONE);
        }
        Intergreen x = Crossings.alone(1, 1, 1, 0);
        x.start(0);
        x.stop();
        Crossings.stands("no second gone by", x, Intergreen.STOPPED, Intergreen.NONE);
        x.go(1);
        Check.text("never green", Crossings.shown(x, 0), "-");
    }

    /** "To stop them makes them STOPPED, and each PHASE RED": the first and the last, GREEN and AMBER. */
    private static void stopMakesEachRed() {
        Intergreen x = Crossings.phases(8, 1, 9, 0);
        x.stage(0x81);
        x.stage(0x42);
        x.start(0);
        x.press(6);
        x.go(2);
        x.stop();
        for (int phase = 0; phase < 8; phase++) {
            Check.same("RED: " + phase, x.ofPhase(phase, 0), Intergreen.RED);
            Check.same("no green: " + phase, x.ofPhase(phase, 1), 0);
        }
    }

    /** "the green of those that were GREEN ends in the second of now": so many seconds from it on, not one less. */
    private static void greenEndsInTheSecondOfNow() {
        for (int between : new int[] {1, 2, 20}) {
            Intergreen x = Crossings.alone(2, 1, 9, 0);
            x.meet(0, 1, between, 9);
            x.start(0);
            x.go(3);
            x.stop();
            x.start(1);
            x.go(between);
            Crossings.stands(between + " seconds, one less", x, Intergreen.CHANGING, 1);
            x.go(1);
            Crossings.stands(between + " seconds", x, Intergreen.ON, 1);
            Check.text("from the end in the second 3 on", Crossings.shown(x, 1, 3), "R".repeat(between) + "G");
        }
    }

    /** "Of a PHASE that was ever GREEN": a start without a second makes nobody GREEN. */
    private static void stopAheadOfAnyGreen() {
        Intergreen x = Crossings.two();
        x.start(0);
        x.stop();
        x.start(1);
        x.go(1);
        Crossings.stands("nobody's green ended", x, Intergreen.ON, 1);
    }

    /** Only "the green of those that were GREEN ends" by a stop: that of an AMBER one ended before. */
    private static void stopKeepsTheEndOfAnAmber() {
        Intergreen x = Crossings.alone(2, 1, 9, 0);
        x.meet(0, 1, 5, 9);
        x.start(0);
        x.ask(1);
        x.go(3);
        Check.text("its green ended in the second 1", Crossings.shown(x, 0), "GAA");
        x.stop();
        x.start(1);
        x.go(4);
        Check.text("5 seconds from the second 1 on", Crossings.shown(x, 1, 1), "RRRRRG");
    }

    /** What a stop does not name stays: the tram, the button, the queue, the wait, the lamp. */
    private static void stopKeepsTheRest() {
        Intergreen x = Crossings.two();
        x.start(0);
        x.go(1);
        x.ask(1);
        x.press(1);
        x.arrive(0, 3);
        x.breaks(0, Intergreen.AMBER, true);
        x.go(1);
        x.stop();
        Check.same("the tram", x.of(3), 1);
        Check.same("the button", x.ofPhase(1, 6), 1);
        Check.same("the queue", x.ofPhase(0, 3), 2);
        Check.same("the wait", x.ofPhase(1, 4), 1);
        Check.same("the second", x.of(2), 2);
        Check.same("those that went", x.of(4), 1);
        Check.same("the lamp", x.breaks(0, Intergreen.AMBER, true), true);
    }

    /** FLASHING, nobody is GREEN: a stop ends no green; the end stays in the second in which they began to flash. */
    private static void flashingIsStopped() {
        Intergreen x = Started.FLASHING.make();
        x.breaks(1, Intergreen.RED, false);
        x.go(1);
        x.stop();
        x.start(1);
        x.go(2);
        Crossings.stands("3 seconds behind the second 3", x, Intergreen.CHANGING, 1);
        x.go(1);
        Crossings.stands("4 seconds behind the second 3", x, Intergreen.ON, 1);
    }

    /** "one that is pressed while it is GREEN is nothing" */
    private static void pressWhileEachColour() {
        Intergreen x = Crossings.alone(2, 1, 9, 0);
        Check.same("RED", x.press(0), true);
        Check.same("RED, pressed already", x.press(0), true);
        x.start(0);
        Check.same("RED, CHANGING to it", x.press(0), true);
        x.go(1);
        Check.same("GREEN took the button", x.ofPhase(0, 6), 0);
        Check.same("GREEN", x.press(0), false);
        x.ask(1);
        x.go(1);
        Check.same("AMBER, the press while GREEN is nothing", x.ofPhase(0, 6), 0);
        Check.same("AMBER", x.press(0), true);
        Check.same("AMBER, DEMANDED", x.ofPhase(0, 6), 1);
        x.go(3);
        Check.same("RED again", x.ofPhase(0, 0), Intergreen.RED);
        Check.same("the press while AMBER stays", x.ofPhase(0, 6), 1);
    }

    /** "stays pressed until that becomes GREEN" */
    private static void pressStaysUntilGreen() {
        Intergreen x = Started.FLASHING.make();
        x.press(1);
        x.go(2);
        Check.same("while FLASHING", x.ofPhase(1, 6), 1);
        x.stop();
        x.go(2);
        Check.same("while STOPPED", x.ofPhase(1, 6), 1);
        x.breaks(1, Intergreen.RED, false);
        x.start(0);
        x.go(2);
        Check.same("while another is GREEN", x.ofPhase(1, 6), 1);
        x.go(7);
        Check.same("while CHANGING to it", x.of(0), Intergreen.CHANGING);
        Check.same("while CHANGING to it", x.ofPhase(1, 6), 1);
        x.go(2);
        Check.same("GREEN", x.ofPhase(1, 0), Intergreen.GREEN);
        x.stop();
        Check.same("RED again, not pressed any more", x.ofPhase(1, 6), 0);
    }

    private static void pressNeedsNoStage() {
        Intergreen x = Crossings.phases(8, 1, 9, 0);
        Check.same("nothing told but phases", x.press(7), true);
        x.stage(1);
        x.start(0);
        x.go(3);
        Check.same("no stage has it", x.ofPhase(7, 6), 1);
        Check.same("it waits", x.ofPhase(7, 4), 3);
        Crossings.stands("nothing is wanted", x, Intergreen.ON, 0);
    }

    /** "or it has a queue": one vehicle is enough, none is not. */
    private static void demandedByAQueueOfOne() {
        Intergreen x = Crossings.two();
        Check.same("none", x.ofPhase(0, 6), 0);
        x.arrive(0, 1);
        Check.same("one", x.ofPhase(0, 6), 1);
        x.arrive(0, 1);
        x.start(0);
        x.go(1);
        Check.same("GREEN, with one", x.ofPhase(0, 3), 1);
        Check.same("GREEN: not DEMANDED", x.ofPhase(0, 6), 0);
        x.stop();
        Check.same("RED, with one", x.ofPhase(0, 6), 1);
        x.start(0);
        x.go(1);
        x.stop();
        Check.same("RED, with none", x.ofPhase(0, 6), 0);
    }

    /** "vehicles: 1 to 50"; "Throws IllegalStateException if the queue would be above 1000": each phase's own. */
    private static void vehiclesAtTheEndsOfTheirRange() {
        Intergreen x = Crossings.phases(8, 1, 9, 0);
        Check.same("1", x.arrive(0, 1), 1);
        Check.same("50", x.arrive(0, 50), 51);
        Crossings.fill(x, 7);
        Check.same("1000", x.ofPhase(7, 3), 1000);
        Check.same("another one's is as it was", x.ofPhase(0, 3), 51);
        Check.same("another one may", x.arrive(6, 50), 50);
        x.stage(0x80);
        x.start(0);
        x.go(1);
        Check.same("one went", x.arrive(7, 1), 1000);
        Check.state("full again", () -> x.arrive(7, 1));
    }

    private static void askForTheFirstAndTheLast() {
        for (int phase : new int[] {0, 7}) {
            Intergreen x = Crossings.phases(8, 1, 9, 0);
            x.ask(phase);
            Check.same("asked for", x.of(3), phase);
            Check.same("not DEMANDED by that", x.ofPhase(phase, 6), 0);
            Check.same("cancelled", x.cancel(), phase);
            Check.same("nothing asked for", x.of(3), Intergreen.NONE);
            x.ask(7 - phase);
            Check.same("another one", x.cancel(), 7 - phase);
        }
    }

    /** "At most one PHASE is ASKED for by a tram, until that is cancelled." */
    private static void askedUntilCancelled() {
        Intergreen x = Started.ON.make();
        x.ask(1);
        x.go(20);
        Check.same("it became GREEN", x.ofPhase(1, 0), Intergreen.GREEN);
        Check.same("asked for all the same", x.of(3), 1);
        x.breaks(0, Intergreen.RED, true);
        x.go(1);
        Check.same("FLASHING", x.of(0), Intergreen.FLASHING);
        x.stop();
        x.breaks(0, Intergreen.RED, false);
        x.start(0);
        x.go(1);
        Check.same("asked for all the same, started anew", x.of(3), 1);
        Check.state("another one", () -> x.ask(0));
        Check.same("cancelled", x.cancel(), 1);
        x.press(0);
        x.ask(0);
        Check.same("another one", x.of(3), 0);
    }

    /** "colour: RED, GREEN or AMBER"; "Returns whether it was.": each lamp of each of eight phases. */
    private static void eachLampOfItsOwn() {
        for (int broken = 0; broken < 24; broken++) {
            Intergreen x = Crossings.phases(8, 1, 9, 0);
            Check.same("at first whole", x.breaks(broken / 3, broken % 3, true), false);
            for (int lamp = 0; lamp < 24; lamp++) {
                Check.same("lamp " + lamp, x.breaks(lamp / 3, lamp % 3, false), lamp == broken);
            }
            Check.same("mended", x.breaks(broken / 3, broken % 3, false), false);
        }
    }

    /** "seconds: 1 to 1000"; "Throws IllegalStateException if there would be more than 5000" */
    private static void secondsAtTheEndsOfTheirRange() {
        Intergreen x = Crossings.two();
        x.go(1);
        Check.same("1", x.of(2), 1);
        x.go(1000);
        Check.same("1000", x.of(2), 1001);
        x.go(1000);
        x.go(1000);
        x.go(1000);
        x.go(998);
        Check.same("all but one", x.of(2), 4999);
        x.go(1);
        Check.same("all", x.of(2), 5000);
    }

    /** "Returns how many vehicles went in them." */
    private static void vehiclesThatWent() {
        Intergreen x = Crossings.phases(8, 1, 9, 0);
        for (int phase = 0; phase < 8; phase++) {
            Crossings.fill(x, phase);
        }
        x.stage(0xFF);
        Check.same("STOPPED", x.go(1), 0);
        x.start(0);
        Check.same("one each", x.go(1), 8);
        Check.same("in these seconds alone", x.go(998), 7984);
        Check.same("all but one each", x.ofPhase(7, 3), 1);
        Check.same("the last ones, and then none", x.go(1000), 8);
        Check.same("none", x.go(1000), 0);
        Check.same("in all", x.of(4), 8000);
    }

    /** The second 5000: none goes by any more, and all else goes on. */
    private static void atTheEnd() {
        Intergreen x = Crossings.two();
        Crossings.goAllBut(x, 1);
        x.start(0);
        x.go(1);
        Check.same("the second of now", x.of(2), 5000);
        Check.same("press", x.press(1), true);
        Check.same("arrive", x.arrive(1, 50), 50);
        x.ask(1);
        Check.same("cancel", x.cancel(), 1);
        Check.same("breaks", x.breaks(1, Intergreen.RED, true), false);
        Check.same("green", x.ofPhase(0, 1), 1);
        Check.state("no second more", () -> x.go(1));
        Crossings.stands("ON", x, Intergreen.ON, 0);
        x.stop();
        Crossings.stands("STOPPED", x, Intergreen.STOPPED, Intergreen.NONE);
        x.start(1);
        Crossings.stands("CHANGING", x, Intergreen.CHANGING, 1);
        Check.same("seen", x.seen(0, 1), Intergreen.NONE);
    }
}
