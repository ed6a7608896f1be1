/** The boundary cases of 'PHASES, STAGES' and of the promises 1 to 4, on the side that is allowed. */
final class EdgesOfPlanTest {
    private EdgesOfPlanTest() {
    }

    public static void main(String[] args) {
        nothingTold();
        secondsWithoutPhases();
        phasesAtTheEndsOfTheirRanges();
        eightPhases();
        aPhaseIsDarkAheadOfBeingTold();
        atFirstNoTwoMeet();
        secondsAtTheEndsOfTheirRange();
        toldForBothOrders();
        inPlaceOfWhatWasTold();
        aStageWithOneOfThem();
        stagesOfOneAndOfAll();
        sixStages();
        noTwoOfWhichMeet();
        aheadOfTheFirstStart();
        Check.end();
    }

    /** "Begins without PHASES and STAGES, STOPPED, in the second 0." */
    private static void nothingTold() {
        Intergreen x = new Intergreen();
        Check.same("STOPPED", x.of(0), Intergreen.STOPPED);
        Check.same("no stage", x.of(1), Intergreen.NONE);
        Check.same("the second 0", x.of(2), 0);
        Check.same("nothing asked for", x.of(3), Intergreen.NONE);
        Check.same("none went", x.of(4), 0);
        Check.same("delay", x.delay(), 0);
        Check.same("delayEach", x.delayEach(), 0);
        Check.same("round", x.round(), Intergreen.NONE);
        Check.same("roundAnew", x.roundAnew(), Intergreen.NONE);
        Check.same("the first phase", x.phase(1, 1, 0), 0);
        Check.same("the first stage", x.stage(1), 0);
    }

    private static void secondsWithoutPhases() {
        Intergreen x = new Intergreen();
        for (int times = 1; times <= 5; times++) {
            Check.same("none goes", x.go(1000), 0);
            Check.same("second", x.of(2), 1000 * times);
        }
        Check.same("delay", x.delay(), 0);
        Check.same("a phase at the end", x.phase(1, 1, 0), 0);
        Check.same("told later: dark in the second 0", x.lamp(0, 0), Intergreen.DARK);
        Check.same("told later: dark in the second 4999", x.lamp(0, 4999), Intergreen.DARK);
    }

    /** "least: 1 to 30, most: least to 120, gap: 0 to 10" */
    private static void phasesAtTheEndsOfTheirRanges() {
        int number = 0;
        Intergreen x = new Intergreen();
        for (int least : new int[] {1, 30}) {
            for (int most : new int[] {least, 120}) {
                for (int gap : new int[] {0, 10}) {
                    Check.same("phase(" + least + ", " + most + ", " + gap + ")", x.phase(least, most, gap), number);
                    number++;
                }
            }
        }
        int[] sets = {0x01, 0x10};
        int[] due = {1, 1 + 30};
        for (int stage = 0; stage < sets.length; stage++) {
            x.stage(sets[stage]);
            Check.same("its least, by the round", x.round(), due[stage]);
        }
    }

    /** "PHASES are numbered from 0, at most 8"; "it is RED at first"; "all 0 at first" */
    private static void eightPhases() {
        Intergreen x = new Intergreen();
        for (int number = 0; number < 8; number++) {
            Check.same("its number", x.phase(1, 2, 3), number);
            Check.same("RED at first", x.ofPhase(number, 0), Intergreen.RED);
            for (int what = 1; what <= 6; what++) {
                Check.same("0 at first: " + what, x.ofPhase(number, what), 0);
            }
        }
        for (int number = 0; number < 8; number++) {
            Check.same("each has a queue of its own", x.arrive(number, number + 1), number + 1);
        }
        for (int number = 0; number < 8; number++) {
            Check.same("queue", x.ofPhase(number, 3), number + 1);
        }
    }

    /** "(also for a PHASE that is told later)" */
    private static void aPhaseIsDarkAheadOfBeingTold() {
        Intergreen x = Crossings.alone(1, 1, 1, 0);
        x.go(2);
        for (int number = 1; number < 8; number++) {
            x.phase(1, 1, 0);
        }
        x.start(0);
        x.go(1);
        for (int number = 0; number < 8; number++) {
            Check.text("phase " + number, Crossings.shown(x, number), number == 0 ? "--G" : "--R");
        }
    }

    /** "at first no two MEET" */
    private static void atFirstNoTwoMeet() {
        Intergreen x = Crossings.phases(8, 1, 1, 0);
        Check.same("all in one stage", x.stage(0xFF), 0);
        Intergreen alone = Crossings.alone(6, 1, 1, 0);
        for (int from = 0; from < 6; from++) {
            for (int to = 0; to < 6; to++) {
                Check.same("change", alone.change(from, to), 0);
            }
        }
    }

    /** "there: 1 to 20", "back: 1 to 20" */
    private static void secondsAtTheEndsOfTheirRange() {
        for (int there : new int[] {1, 2, 19, 20}) {
            for (int back : new int[] {1, 2, 19, 20}) {
                Intergreen x = Crossings.alone(2, 1, 1, 0);
                x.meet(0, 1, there, back);
                Check.same("there", x.change(0, 1), there);
                Check.same("back", x.change(1, 0), back);
            }
        }
    }

    /** "how many seconds must be between the end of green of the one and the beginning of green of the other, for both
     * orders", for each two of eight. */
    private static void toldForBothOrders() {
        for (int one = 0; one < 8; one++) {
            for (int other = 0; other < 8; other++) {
                if (one != other) {
                    Intergreen x = Crossings.phases(8, 1, 1, 0);
                    x.meet(one, other, 7, 11);
                    x.stage(1 << one);
                    x.stage(1 << other);
                    Check.same("from " + one + " to " + other, x.change(0, 1), 7);
                    Check.same("from " + other + " to " + one, x.change(1, 0), 11);
                    Check.same("the others do not meet", x.stage(0xFF & ~(1 << one)), 2);
                }
            }
        }
    }

    /** "Tells that two PHASES MEET, in place of what was told of them." */
    private static void inPlaceOfWhatWasTold() {
        Intergreen x = Crossings.alone(2, 1, 1, 0);
        x.meet(0, 1, 20, 20);
        x.meet(0, 1, 1, 2);
        Check.same("less than before", x.change(0, 1), 1);
        Check.same("less than before, back", x.change(1, 0), 2);
        x.meet(1, 0, 3, 4);
        Check.same("turned round", x.change(0, 1), 4);
        Check.same("turned round, back", x.change(1, 0), 3);
        Check.state("they meet all the same", () -> x.stage(3));
    }

    /** "or a STAGE has both": one that has one of them alone, and two that have one each, are nothing. */
    private static void aStageWithOneOfThem() {
        Intergreen x = Crossings.phases(3, 1, 1, 0);
        x.stage(1 | 4);
        x.stage(2 | 4);
        x.meet(0, 1, 5, 6);
        Check.same("there", x.change(0, 1), 5);
        Check.same("back", x.change(1, 0), 6);
    }

    /** "bit k for the PHASE k, at least one" */
    private static void stagesOfOneAndOfAll() {
        for (int phase = 0; phase < 8; phase++) {
            Intergreen x = new Intergreen();
            for (int number = 0; number < 8; number++) {
                x.phase(number + 1, 120, 0);
            }
            Check.same("one phase", x.stage(1 << phase), 0);
            Check.same("its least", x.round(), phase + 1);
            Check.same("all phases", x.stage(0xFF), 1);
            Check.same("the greatest least is more", x.round(), phase + 1 + 8);
            x.start(0);
            x.go(1);
            for (int number = 0; number < 8; number++) {
                int due = number == phase ? Intergreen.GREEN : Intergreen.RED;
                Check.same("the bit " + phase + ", the phase " + number, x.ofPhase(number, 0), due);
            }
        }
    }

    /** "STAGES are numbered from 0, at most 6" */
    private static void sixStages() {
        Intergreen x = Crossings.phases(1, 2, 2, 0);
        for (int number = 0; number < 6; number++) {
            Check.same("its number", x.stage(1), number);
            Check.same("so many stages in the round", x.round(), 2 * (number + 1));
            Check.same("the last place", x.inRound(number), number);
        }
    }

    /** "a set of PHASES, no two of which MEET": those that meet others outside of it may be. */
    private static void noTwoOfWhichMeet() {
        Intergreen x = Crossings.phases(8, 1, 1, 0);
        for (int phase = 0; phase < 8; phase += 2) {
            x.meet(phase, phase + 1, 1, 1);
        }
        Check.same("the even ones", x.stage(0x55), 0);
        Check.same("the odd ones", x.stage(0xAA), 1);
        Check.state("0 and 1", () -> x.stage(0x03));
        Check.state("6 and 7", () -> x.stage(0xC0));
        Check.state("the even ones and 7", () -> x.stage(0xD5));
    }

    /** "All that can be told ahead of the first start alone": also when all seconds have gone by without one. */
    private static void aheadOfTheFirstStart() {
        Intergreen x = Crossings.alone(1, 1, 1, 0);
        Check.state("nothing to stop", x::stop);
        Check.bounds("no such stage to start", () -> x.start(1));
        Crossings.goAllBut(x, 0);
        Check.same("a phase", x.phase(1, 1, 0), 1);
        x.meet(0, 1, 8, 9);
        Check.same("a stage", x.stage(2), 1);
        Check.same("change", x.change(0, 1), 8);
    }
}
