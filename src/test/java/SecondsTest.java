/** 'A second', step by step (promises 5 to 15). */
final class SecondsTest {
    private SecondsTest() {
    }

    public static void main(String[] args) {
        wantedIsTheNextBehind();
        wantedByQueue();
        leastHoldsTheTram();
        restHoldsTheDemand();
        mostEndsTheGreen();
        tramGoesAheadOfRest();
        tramTakesTheLowestStage();
        tramKeepsItsStage();
        tramWithoutStage();
        eachOfThoseThatLeave();
        nothingLeaves();
        greenGoesOnThroughAChange();
        amberFor3Seconds();
        amberBecomesGreen();
        eachBeginsByItsOwn();
        watcherFlashes();
        watcherBesideAmber();
        watcherLetsPass();
        watcherInTheFirstSecond();
        startFromFlashing();
        waits();
        restAndVehicles();
        delays();
        oneSecondBetween();
        eightPhases();
        Check.end();
    }

    private static void wantedIsTheNextBehind() {
        Intergreen x = Crossings.alone(4, 2, 6, 0);
        x.start(2);
        x.press(1);
        x.press(3);
        x.press(0);
        x.go(2);
        Crossings.stands("least is not reached", x, Intergreen.ON, 2);
        x.go(1);
        Crossings.stands("3 is behind 2", x, Intergreen.ON, 3);
        x.go(2);
        Crossings.stands("behind the last one is 0", x, Intergreen.ON, 0);
        x.go(2);
        Crossings.stands("1 is behind 0", x, Intergreen.ON, 1);
        x.go(9);
        Crossings.stands("nothing is demanded", x, Intergreen.ON, 1);
        x.press(1);
        x.go(9);
        Crossings.stands("a press of the green one is nothing", x, Intergreen.ON, 1);
    }

    private static void wantedByQueue() {
        Intergreen x = Crossings.alone(3, 2, 6, 0);
        x.start(0);
        x.go(3);
        x.arrive(2, 1);
        x.go(1);
        Crossings.stands("a queue demands", x, Intergreen.ON, 2);
        Check.same("its vehicle went", x.of(4), 1);
    }

    private static void leastHoldsTheTram() {
        Intergreen x = Crossings.alone(2, 2, 6, 0);
        x.start(0);
        x.ask(1);
        x.go(2);
        Crossings.stands("least", x, Intergreen.ON, 0);
        x.go(1);
        Crossings.stands("least is reached", x, Intergreen.ON, 1);
    }

    private static void restHoldsTheDemand() {
        Intergreen x = Crossings.alone(2, 2, 6, 4);
        x.start(0);
        x.go(1);
        Check.same("rest", x.ofPhase(0, 2), 3);
        x.press(1);
        x.go(3);
        Crossings.stands("rest became 0", x, Intergreen.ON, 0);
        Check.same("rest", x.ofPhase(0, 2), 0);
        Check.same("green", x.ofPhase(0, 1), 4);
        x.go(1);
        Crossings.stands("rest was 0", x, Intergreen.ON, 1);
    }

    private static void mostEndsTheGreen() {
        Intergreen x = Crossings.alone(2, 2, 6, 4);
        x.start(0);
        x.press(1);
        for (int second = 0; second < 6; second++) {
            x.arrive(0, 2);
            x.go(1);
        }
        Crossings.stands("below most", x, Intergreen.ON, 0);
        Check.same("green", x.ofPhase(0, 1), 6);
        Check.same("rest", x.ofPhase(0, 2), 4);
        x.go(1);
        Crossings.stands("most", x, Intergreen.ON, 1);
    }

    private static void tramGoesAheadOfRest() {
        Intergreen x = Crossings.alone(3, 2, 6, 10);
        x.start(0);
        x.arrive(0, 50);
        x.press(1);
        x.go(2);
        x.ask(2);
        x.go(1);
        Crossings.stands("the tram, with rest and below most", x, Intergreen.ON, 2);
        Check.same("amber", x.ofPhase(0, 0), Intergreen.AMBER);
    }

    private static void tramTakesTheLowestStage() {
        Intergreen x = new Intergreen();
        for (int number = 0; number < 3; number++) {
            x.phase(1, 9, 0);
        }
        x.stage(1);
        x.stage(6);
        x.stage(2);
        x.stage(4);
        x.start(2);
        x.go(1);
        x.ask(2);
        x.go(1);
        Crossings.stands("the lowest that has it, not the next behind", x, Intergreen.ON, 1);
        x.cancel();
        x.press(0);
        x.go(1);
        Crossings.stands("0 is the first behind 1 round the end", x, Intergreen.ON, 0);
        x.ask(1);
        x.go(1);
        Crossings.stands("lowest again", x, Intergreen.ON, 1);
    }

    private static void tramKeepsItsStage() {
        Intergreen x = new Intergreen();
        x.phase(1, 1, 0);
        x.phase(1, 1, 0);
        x.stage(1);
        x.stage(2);
        x.stage(1);
        x.start(2);
        x.ask(0);
        x.press(1);
        x.go(30);
        Crossings.stands("the one that is on has it, though a lower one has it too", x, Intergreen.ON, 2);
        x.cancel();
        x.go(1);
        Crossings.stands("cancelled: the demand", x, Intergreen.ON, 1);
    }

    private static void tramWithoutStage() {
        Intergreen x = new Intergreen();
        x.phase(1, 20, 5);
        x.phase(1, 20, 0);
        x.phase(1, 20, 0);
        x.stage(1);
        x.stage(2);
        x.start(0);
        x.ask(2);
        x.go(2);
        Crossings.stands("no stage has it", x, Intergreen.ON, 0);
        x.press(1);
        x.go(3);
        Crossings.stands("found by demand, so the rest holds", x, Intergreen.ON, 0);
        x.go(1);
        Crossings.stands("found by demand", x, Intergreen.ON, 1);
    }

    private static void eachOfThoseThatLeave() {
        Intergreen x = new Intergreen();
        x.phase(2, 20, 0);
        x.phase(5, 20, 7);
        x.phase(1, 20, 0);
        x.stage(3);
        x.stage(4);
        x.start(0);
        x.ask(2);
        x.go(5);
        Crossings.stands("the least of each", x, Intergreen.ON, 0);
        x.cancel();
        x.press(2);
        x.go(2);
        Crossings.stands("the rest of each", x, Intergreen.ON, 0);
        x.go(1);
        Crossings.stands("each may end", x, Intergreen.ON, 1);
        Check.same("both are amber", x.ofPhase(0, 0), Intergreen.AMBER);
        Check.same("both are amber", x.ofPhase(1, 0), Intergreen.AMBER);
    }

    private static void nothingLeaves() {
        Intergreen x = new Intergreen();
        x.phase(30, 120, 10);
        x.phase(1, 1, 0);
        x.stage(1);
        x.stage(3);
        x.start(0);
        x.go(1);
        x.press(1);
        x.go(1);
        Crossings.stands("a stage with more phases", x, Intergreen.ON, 1);
        Check.same("its green goes on", x.ofPhase(0, 1), 2);
        Check.same("the other's begins", x.ofPhase(1, 1), 1);
        Check.same("its rest is not anew", x.ofPhase(0, 2), 8);
    }

    private static void greenGoesOnThroughAChange() {
        Intergreen x = new Intergreen();
        x.phase(2, 20, 0);
        x.phase(2, 20, 0);
        x.phase(2, 20, 0);
        x.meet(1, 2, 5, 5);
        x.stage(3);
        x.stage(5);
        x.start(0);
        x.press(2);
        x.go(7);
        Crossings.stands("changing", x, Intergreen.CHANGING, 1);
        Check.same("green all the while", x.ofPhase(0, 1), 7);
        x.go(1);
        Crossings.stands("on", x, Intergreen.ON, 1);
        Check.same("green all the while", x.ofPhase(0, 1), 8);
    }

    private static void amberFor3Seconds() {
        Intergreen x = Crossings.alone(2, 2, 6, 0);
        x.start(0);
        x.press(1);
        x.go(3);
        for (int second = 2; second < 5; second++) {
            Check.same("amber in " + second, x.ofPhase(0, 0), Intergreen.AMBER);
            Check.same("shown in " + second, x.lamp(0, second), Intergreen.AMBER);
            Check.same("no green", x.ofPhase(0, 1), 0);
            x.go(1);
        }
        Check.same("red in 5", x.ofPhase(0, 0), Intergreen.RED);
        Check.same("shown in 5", x.lamp(0, 5), Intergreen.RED);
    }

    private static void amberBecomesGreen() {
        Intergreen x = new Intergreen();
        x.phase(1, 9, 3);
        x.phase(1, 9, 0);
        x.stage(1);
        x.stage(2);
        x.start(0);
        x.ask(1);
        x.go(2);
        Check.same("amber", x.ofPhase(0, 0), Intergreen.AMBER);
        Check.same("pressed while amber", x.press(0), true);
        x.cancel();
        x.go(1);
        Check.same("green again", x.ofPhase(0, 0), Intergreen.GREEN);
        Check.same("its green anew", x.ofPhase(0, 1), 1);
        Check.same("its rest anew", x.ofPhase(0, 2), 2);
        Check.same("green 0, amber 1, green 2", x.lamp(0, 1), Intergreen.AMBER);
        Check.same("green 0, amber 1, green 2", x.lamp(0, 2), Intergreen.GREEN);
    }

    private static void eachBeginsByItsOwn() {
        Intergreen x = new Intergreen();
        x.phase(1, 9, 0);
        x.phase(1, 9, 0);
        x.phase(1, 9, 0);
        x.meet(0, 1, 2, 20);
        x.meet(2, 0, 20, 4);
        x.stage(1);
        x.stage(6);
        x.start(0);
        x.press(1);
        x.go(2);
        Crossings.stands("ended in 1", x, Intergreen.CHANGING, 1);
        x.go(2);
        Check.same("2 seconds behind", x.ofPhase(1, 0), Intergreen.GREEN);
        Check.same("not yet", x.ofPhase(2, 0), Intergreen.RED);
        Crossings.stands("not all are green", x, Intergreen.CHANGING, 1);
        x.go(2);
        Check.same("4 seconds behind", x.ofPhase(2, 0), Intergreen.GREEN);
        Crossings.stands("all are green", x, Intergreen.ON, 1);
        Check.same("the first one's green", x.ofPhase(1, 1), 3);
        Check.same("the other one's green", x.ofPhase(2, 1), 1);
    }

    private static Intergreen meeting() {
        Intergreen x = new Intergreen();
        x.phase(1, 9, 0);
        x.phase(1, 9, 0);
        x.phase(1, 9, 0);
        x.meet(0, 1, 5, 5);
        x.stage(1);
        x.stage(2);
        x.stage(4);
        return x;
    }

    private static void watcherFlashes() {
        Intergreen x = meeting();
        x.start(0);
        x.go(2);
        x.arrive(0, 3);
        x.breaks(1, Intergreen.RED, true);
        Check.same("nobody goes", x.go(1), 0);
        Crossings.stands("it meets a green one", x, Intergreen.FLASHING, Intergreen.NONE);
        Check.same("red", x.ofPhase(0, 0), Intergreen.RED);
        Check.same("dark at once", x.lamp(0, 2), Intergreen.DARK);
        Check.same("dark at once, also the third", x.lamp(2, 2), Intergreen.DARK);
        Check.same("demanded", x.ofPhase(0, 6), 1);
        Check.same("waits at once", x.ofPhase(0, 4), 1);
        x.breaks(1, Intergreen.RED, false);
        x.go(4);
        Crossings.stands("it flashes on, though mended", x, Intergreen.FLASHING, Intergreen.NONE);
        Check.same("dark", x.lamp(2, 6), Intergreen.DARK);
        x.stop();
        Crossings.stands("stopped", x, Intergreen.STOPPED, Intergreen.NONE);
        x.start(1);
        Check.same("its green ended in the second 2, nobody else's did", x.go(1), 0);
        Check.same("5 seconds behind", x.ofPhase(1, 0), Intergreen.GREEN);
    }

    private static void watcherBesideAmber() {
        Intergreen x = meeting();
        x.start(0);
        x.press(1);
        x.go(2);
        Check.same("amber since 1", x.ofPhase(0, 0), Intergreen.AMBER);
        x.breaks(1, Intergreen.RED, true);
        x.go(1);
        Crossings.stands("it meets an amber one", x, Intergreen.FLASHING, Intergreen.NONE);
        Check.same("the amber one is red", x.ofPhase(0, 0), Intergreen.RED);
        x.breaks(1, Intergreen.RED, false);
        x.start(1);
        x.go(3);
        Check.same("4 seconds behind the end", x.ofPhase(1, 0), Intergreen.RED);
        x.go(1);
        Check.same("5 seconds behind the end in 1", x.ofPhase(1, 0), Intergreen.GREEN);
    }

    private static void watcherLetsPass() {
        Intergreen x = meeting();
        x.breaks(2, Intergreen.RED, true);
        x.breaks(0, Intergreen.RED, true);
        x.breaks(1, Intergreen.GREEN, true);
        x.breaks(1, Intergreen.AMBER, true);
        x.go(2);
        Crossings.stands("stopped lights are not watched", x, Intergreen.STOPPED, Intergreen.NONE);
        x.start(0);
        x.go(5);
        Crossings.stands("2 meets nobody, 0 is green", x, Intergreen.ON, 0);
        Check.same("a red lamp broken", x.lamp(2, 6), Intergreen.DARK);
        Check.same("a red lamp whole", x.lamp(1, 6), Intergreen.RED);
        x.press(1);
        x.go(5);
        Crossings.stands("0 is amber, then red, and 1 is red", x, Intergreen.CHANGING, 1);
        Check.same("0 is dark", x.lamp(0, 10), Intergreen.DARK);
        x.go(1);
        Crossings.stands("1 becomes green in the second 12", x, Intergreen.FLASHING, Intergreen.NONE);
        Check.same("dark, not green", x.lamp(1, 12), Intergreen.DARK);
    }

    private static void watcherInTheFirstSecond() {
        Intergreen x = meeting();
        x.press(0);
        x.arrive(0, 2);
        x.breaks(1, Intergreen.RED, true);
        x.start(0);
        Check.same("nobody goes", x.go(1), 0);
        Crossings.stands("at once", x, Intergreen.FLASHING, Intergreen.NONE);
        Check.same("it was green in that second: its wait became 0, then 1", x.ofPhase(0, 4), 1);
        x.breaks(1, Intergreen.RED, false);
        x.start(1);
        x.go(4);
        Check.same("its green ended in the second 0", x.ofPhase(1, 0), Intergreen.RED);
        x.go(1);
        Check.same("its green ended in the second 0", x.ofPhase(1, 0), Intergreen.GREEN);
        Check.same("never shown green", x.seen(0, 1), Intergreen.NONE);
    }

    private static void startFromFlashing() {
        Intergreen x = meeting();
        x.start(0);
        x.go(1);
        x.breaks(1, Intergreen.RED, true);
        x.go(1);
        x.start(2);
        Crossings.stands("started while flashing", x, Intergreen.CHANGING, 2);
        x.go(1);
        Crossings.stands("2 meets nobody", x, Intergreen.ON, 2);
        x.press(0);
        x.go(1);
        Crossings.stands("0 meets 1", x, Intergreen.FLASHING, Intergreen.NONE);
        Check.state("a phase while flashing", () -> x.phase(1, 1, 1));
    }

    private static void waits() {
        Intergreen x = meeting();
        x.press(1);
        x.go(3);
        Check.same("waits while stopped", x.ofPhase(1, 4), 3);
        Check.same("the others do not", x.ofPhase(0, 4), 0);
        x.start(1);
        x.go(1);
        Check.same("green", x.ofPhase(1, 4), 0);
        Check.same("longest", x.ofPhase(1, 5), 3);
        x.arrive(1, 50);
        x.go(1);
        Check.same("green, with a queue", x.ofPhase(1, 4), 0);
        x.ask(0);
        x.go(2);
        Check.same("amber, with a queue", x.ofPhase(1, 4), 2);
        Check.same("longest is the longer one", x.ofPhase(1, 5), 3);
        x.go(3);
        Check.same("0 is not there yet", x.ofPhase(1, 4), 5);
        Check.same("longest", x.ofPhase(1, 5), 5);
        x.cancel();
        x.go(1);
        Check.same("0 is green", x.ofPhase(0, 0), Intergreen.GREEN);
        Check.same("0 never waited: it was not demanded", x.ofPhase(0, 5), 0);
    }

    private static void restAndVehicles() {
        Intergreen x = new Intergreen();
        x.phase(1, 100, 3);
        x.phase(1, 100, 0);
        x.stage(3);
        x.arrive(0, 2);
        x.arrive(1, 1);
        x.start(0);
        Check.same("one of each", x.go(1), 2);
        Check.same("queue", x.ofPhase(0, 3), 1);
        Check.same("queue", x.ofPhase(1, 3), 0);
        Check.same("rest is the gap", x.ofPhase(0, 2), 3);
        Check.same("a gap of 0", x.ofPhase(1, 2), 0);
        Check.same("the last one", x.go(1), 1);
        Check.same("rest is the gap", x.ofPhase(0, 2), 3);
        x.go(2);
        Check.same("rest", x.ofPhase(0, 2), 1);
        x.go(3);
        Check.same("rest stays 0", x.ofPhase(0, 2), 0);
        Check.same("in all", x.of(4), 3);
        x.arrive(0, 1);
        Check.same("an arrival alone does not renew it", x.ofPhase(0, 2), 0);
        x.go(1);
        Check.same("going does", x.ofPhase(0, 2), 3);
    }

    private static void delays() {
        Intergreen x = meeting();
        x.arrive(0, 3);
        x.arrive(1, 2);
        x.go(2);
        Check.same("while stopped", x.delay(), 10);
        Check.same("none went", x.delayEach(), 0);
        x.start(0);
        x.go(1);
        Check.same("behind the one that went", x.delay(), 14);
        Check.same("one went", x.delayEach(), 14);
        x.go(1);
        Check.same("0 is amber, 4 vehicles wait", x.delay(), 18);
        x.go(5);
        Check.same("1 is green, in the second 8", x.delay(), 37);
        Check.same("two went", x.delayEach(), 18.5f);
    }

    private static void oneSecondBetween() {
        Intergreen x = new Intergreen();
        x.phase(1, 9, 0);
        x.phase(1, 9, 0);
        x.meet(0, 1, 1, 1);
        x.stage(1);
        x.stage(2);
        x.start(0);
        x.press(1);
        x.go(2);
        Check.same("not in the second of the end", x.ofPhase(1, 0), Intergreen.RED);
        x.go(1);
        Check.same("in the next one", x.ofPhase(1, 0), Intergreen.GREEN);
        Check.same("while the other is amber", x.ofPhase(0, 0), Intergreen.AMBER);
        x.breaks(0, Intergreen.RED, true);
        x.go(1);
        Crossings.stands("the amber one needs no red lamp", x, Intergreen.ON, 1);
        x.go(1);
        Crossings.stands("it becomes red, and meets a green one", x, Intergreen.FLASHING, Intergreen.NONE);
    }

    private static void eightPhases() {
        Intergreen x = new Intergreen();
        for (int number = 0; number < 8; number++) {
            x.phase(1, 9, 0);
        }
        x.meet(7, 0, 2, 3);
        x.stage(1);
        x.stage(128);
        x.start(0);
        x.breaks(6, Intergreen.RED, true);
        x.go(2);
        Crossings.stands("6 meets nobody", x, Intergreen.ON, 0);
        x.press(7);
        x.go(4);
        Crossings.stands("7 is green, 3 seconds behind 0", x, Intergreen.ON, 1);
        x.ask(0);
        x.breaks(7, Intergreen.RED, true);
        x.go(3);
        Crossings.stands("0 is green, 2 seconds behind 7, which is amber yet", x, Intergreen.ON, 0);
        x.go(1);
        Crossings.stands("7 is red and meets 0", x, Intergreen.FLASHING, Intergreen.NONE);
        for (int number = 0; number < 8; number++) {
            Check.same("dark: " + number, x.lamp(number, 9), Intergreen.DARK);
            Check.same("red: " + number, x.ofPhase(number, 0), Intergreen.RED);
        }
    }
}
