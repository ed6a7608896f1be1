/** The boundary cases of 'A second', steps 2 to 4: greens that begin, ambers that end, the watcher. */
final class EdgesOfChangingTest {
    private EdgesOfChangingTest() {
    }

    public static void main(String[] args) {
        byStepOneJustNow();
        secondsBetweenAndOneLess();
        neverGreen();
        theLatestEndCounts();
        eachThatItMeets();
        oneThatEndedEarlier();
        alsoAnAmberOne();
        greenAndRestAnew();
        onIfAllAreGreen();
        oneThatBeganAheadOfTheOther();
        amberFor3Seconds();
        twoAmbersOfTheirOwn();
        watcherOfEachTwo();
        watcherOfTheRedLampAlone();
        watcherOfTheBrokenAlone();
        watcherOfRedAlone();
        watcherBesideAmber();
        watcherBesideRed();
        watcherAsGreenBegins();
        watcherWhileChanging();
        watcherOfStoppedLights();
        flashingMakesEachRed();
        flashingEndsGreensInThisSecond();
        flashingKeepsTheEndOfAnAmber();
        flashingUntilStoppedOrStarted();
        Check.end();
    }

    /** Two phases that meet, each alone in a stage; least 1, gap 0. */
    private static Intergreen meeting(int there, int back) {
        Intergreen x = Crossings.alone(2, 1, 120, 0);
        x.meet(0, 1, there, back);
        return x;
    }

    /** "If THE LIGHTS are CHANGING, also by step 1 just now": one ends and the other begins in one second. */
    private static void byStepOneJustNow() {
        Intergreen x = Crossings.alone(2, 1, 9, 0);
        x.start(0);
        x.press(1);
        x.go(2);
        Check.text("ends", Crossings.shown(x, 0), "GA");
        Check.text("begins", Crossings.shown(x, 1), "RG");
        Crossings.stands("at once", x, Intergreen.ON, 1);
    }

    /** "its green ended as many seconds ago as must be between, or more" */
    private static void secondsBetweenAndOneLess() {
        for (int between : new int[] {1, 2, 3, 4, 19, 20}) {
            changes(meeting(between, 7), 0, between);
            changes(meeting(7, between), 1, between);
        }
    }

    private static void changes(Intergreen x, int from, int between) {
        int to = 1 - from;
        x.start(from);
        x.press(to);
        x.go(1 + between);
        Crossings.stands("one second less than " + between, x, Intergreen.CHANGING, to);
        x.go(1);
        Crossings.stands(between + " seconds", x, Intergreen.ON, to);
        Check.text("from " + from, Crossings.shown(x, to), "R".repeat(1 + between) + "G");
        Check.same("seen", x.seen(from, to), between);
    }

    /** "and either was never GREEN" */
    private static void neverGreen() {
        for (int first = 0; first < 2; first++) {
            Intergreen x = meeting(20, 20);
            x.start(first);
            x.go(1);
            Crossings.stands("in the second 0", x, Intergreen.ON, first);
        }
    }

    private static void theLatestEndCounts() {
        Intergreen x = meeting(5, 1);
        x.start(0);
        x.go(1);
        x.stop();
        x.start(0);
        x.go(10);
        x.press(1);
        x.go(6);
        Check.text("ended in the second 1, and in 11", Crossings.shown(x, 1, 11), "RRRRRG");
    }

    /** "each PHASE that it MEETS": the one for which it must wait longest, wherever it stands. */
    private static void eachThatItMeets() {
        for (int[] between : new int[][] {{3, 8}, {8, 3}}) {
            Intergreen x = Crossings.phases(3, 1, 9, 0);
            x.meet(0, 2, between[0], 1);
            x.meet(1, 2, between[1], 1);
            x.stage(3);
            x.stage(4);
            x.start(0);
            x.press(2);
            x.go(10);
            Check.text("the longer one", Crossings.shown(x, 2), "RRRRRRRRRG");
        }
    }

    /** A phase that is in neither stage counts too: its green ended in an earlier change. */
    private static void oneThatEndedEarlier() {
        Intergreen x = Crossings.alone(3, 1, 9, 0);
        x.meet(0, 2, 20, 1);
        x.start(0);
        x.press(1);
        x.go(2);
        x.press(2);
        x.go(20);
        Check.text("ended in the second 1", Crossings.shown(x, 2), "R".repeat(21) + "G");
        Check.text("ended in the second 2", Crossings.shown(x, 1), "RGAAA" + "R".repeat(17));
    }

    /** "that is not GREEN, also an AMBER one, becomes so" */
    private static void alsoAnAmberOne() {
        String[] due = {"GAGGGG", "GAAGGG", "GAAAGG", "GAAARG"};
        for (int ambers = 0; ambers < due.length; ambers++) {
            Intergreen x = Crossings.alone(2, 1, 9, 0);
            x.start(0);
            x.ask(1);
            x.go(2 + ambers);
            x.cancel();
            x.press(0);
            x.go(4 - ambers);
            Check.text("pressed in the second " + (2 + ambers), Crossings.shown(x, 0), due[ambers]);
        }
    }

    /** "its green is 0 then, and its rest its gap", also the second time. */
    private static void greenAndRestAnew() {
        for (int gap : new int[] {0, 1, 10}) {
            Intergreen x = Crossings.alone(2, 1, 120, gap);
            x.start(0);
            x.go(1);
            Check.same("green", x.ofPhase(0, 1), 1);
            Check.same("rest of " + gap, x.ofPhase(0, 2), Math.max(0, gap - 1));
            x.go(20);
            Check.same("green", x.ofPhase(0, 1), 21);
            Check.same("rest", x.ofPhase(0, 2), 0);
            x.ask(1);
            x.go(1);
            x.cancel();
            x.ask(0);
            x.go(1);
            Check.same("green anew", x.ofPhase(0, 1), 1);
            Check.same("rest of " + gap + " anew", x.ofPhase(0, 2), Math.max(0, gap - 1));
        }
    }

    /** "If all PHASES of that STAGE are GREEN then, THE LIGHTS are ON with it": one that is missing is enough. */
    private static void onIfAllAreGreen() {
        for (int late = 1; late < 8; late++) {
            Intergreen x = Crossings.phases(8, 1, 9, 0);
            x.meet(0, late, 2, 1);
            x.stage(1);
            x.stage(0xFE);
            x.start(0);
            x.press(late);
            x.go(2);
            Crossings.stands("in the second 1", x, Intergreen.CHANGING, 1);
            x.go(1);
            Crossings.stands("in the second 2", x, Intergreen.CHANGING, 1);
            for (int phase = 1; phase < 8; phase++) {
                Check.same("phase " + phase, x.ofPhase(phase, 1), phase == late ? 0 : 2);
            }
            x.go(1);
            Crossings.stands("in the second 3", x, Intergreen.ON, 1);
            Check.same("the last one", x.ofPhase(late, 1), 1);
        }
    }

    /** It is GREEN beyond its most, until they are ON and it may end. */
    private static void oneThatBeganAheadOfTheOther() {
        Intergreen x = Crossings.phases(3, 1, 2, 0);
        x.meet(0, 2, 9, 1);
        x.stage(1);
        x.stage(6);
        x.start(0);
        x.press(1);
        x.go(2);
        x.press(0);
        x.go(10);
        Check.text("its green goes on until the other begins", Crossings.shown(x, 1), "R" + "G".repeat(10) + "A");
        Check.text("GREEN in the second 10", Crossings.shown(x, 2), "R".repeat(10) + "GA");
    }

    /** "A PHASE that is AMBER, and whose green ended 3 seconds ago or more, becomes RED." */
    private static void amberFor3Seconds() {
        Intergreen on = Crossings.alone(2, 1, 9, 0);
        on.start(0);
        on.press(1);
        on.go(6);
        Check.text("ON", Crossings.shown(on, 0), "GAAARR");
        Intergreen changing = meeting(20, 20);
        changing.start(0);
        changing.press(1);
        changing.go(6);
        Check.text("CHANGING", Crossings.shown(changing, 0), "GAAARR");
        Check.same("as told", changing.ofPhase(0, 0), Intergreen.RED);
    }

    private static void twoAmbersOfTheirOwn() {
        Intergreen x = Crossings.alone(3, 1, 9, 0);
        x.start(0);
        x.press(1);
        x.go(2);
        x.press(2);
        x.go(5);
        Check.text("ended in 1", Crossings.shown(x, 0), "GAAARRR");
        Check.text("ended in 2", Crossings.shown(x, 1), "RGAAARR");
    }

    /** "some PHASE is RED, its red lamp is broken, and some PHASE that it MEETS is GREEN": each two of eight. */
    private static void watcherOfEachTwo() {
        for (int one = 0; one < 8; one++) {
            for (int other = 0; other < 8; other++) {
                if (one != other) {
                    Intergreen x = Crossings.phases(8, 1, 9, 0);
                    x.meet(one, other, 5, 5);
                    x.stage(1 << other);
                    x.start(0);
                    x.go(1);
                    x.breaks(one, Intergreen.RED, true);
                    x.go(1);
                    Crossings.stands(one + " beside " + other, x, Intergreen.FLASHING, Intergreen.NONE);
                    Check.text("DARK in this second", Crossings.shown(x, other), "G-");
                }
            }
        }
    }

    private static void watcherOfTheRedLampAlone() {
        Intergreen x = meeting(5, 5);
        x.start(0);
        x.breaks(1, Intergreen.GREEN, true);
        x.breaks(1, Intergreen.AMBER, true);
        x.breaks(0, Intergreen.RED, true);
        x.go(9);
        Crossings.stands("the red lamp of 1 is whole", x, Intergreen.ON, 0);
        Check.text("shown", Crossings.shown(x, 1), "RRRRRRRRR");
    }

    /** A lamp that was mended, and one of a phase that meets nobody, are nothing. */
    private static void watcherOfTheBrokenAlone() {
        Intergreen x = Crossings.alone(3, 1, 9, 0);
        x.meet(0, 1, 5, 5);
        x.breaks(1, Intergreen.RED, true);
        x.breaks(2, Intergreen.RED, true);
        x.breaks(1, Intergreen.RED, false);
        x.start(0);
        x.go(3);
        Crossings.stands("2 meets nobody", x, Intergreen.ON, 0);
        Check.text("shown", Crossings.shown(x, 2), "---");
    }

    /** "some PHASE is RED": an AMBER one whose red lamp is broken is nothing until it becomes RED, by step 3. */
    private static void watcherOfRedAlone() {
        Intergreen x = meeting(1, 1);
        x.breaks(0, Intergreen.RED, true);
        x.start(0);
        x.press(1);
        x.go(4);
        Crossings.stands("AMBER, in the second 3", x, Intergreen.ON, 1);
        x.go(1);
        Crossings.stands("RED, in the second 4", x, Intergreen.FLASHING, Intergreen.NONE);
        Check.text("the one that became RED", Crossings.shown(x, 0), "GAAA-");
        Check.text("the one that it meets", Crossings.shown(x, 1), "RRGG-");
    }

    /** "is GREEN or AMBER": in the first second of AMBER, and in the last one. */
    private static void watcherBesideAmber() {
        for (int ambers = 0; ambers < 3; ambers++) {
            Intergreen x = besideAmber(ambers);
            Crossings.stands("beside AMBER, second " + ambers, x, Intergreen.FLASHING, Intergreen.NONE);
            Check.text("shown", Crossings.shown(x, 0), "GAAA".substring(0, 1 + ambers) + "-");
        }
    }

    /** Beside one that becomes RED in this very second, by step 3, nothing happens. */
    private static void watcherBesideRed() {
        Intergreen x = besideAmber(3);
        Crossings.stands("beside RED", x, Intergreen.CHANGING, 1);
        Check.text("shown", Crossings.shown(x, 0), "GAAAR");
        Check.text("its red lamp is broken", Crossings.shown(x, 1), "RRRR-");
        x.breaks(0, Intergreen.RED, true);
        x.go(15);
        Crossings.stands("both are RED", x, Intergreen.CHANGING, 1);
    }

    /** The phase 0 is AMBER from the second 1 on; so many seconds later the red lamp of 1 breaks; a second goes by. */
    private static Intergreen besideAmber(int ambers) {
        Intergreen x = meeting(20, 20);
        x.start(0);
        x.press(1);
        x.go(1 + ambers);
        x.breaks(1, Intergreen.RED, true);
        x.go(1);
        return x;
    }

    /** One that becomes GREEN in this second, by step 2, counts; it is never shown, but it was GREEN. */
    private static void watcherAsGreenBegins() {
        Intergreen x = greenUnseen();
        x.arrive(0, 2);
        x.start(0);
        Check.same("nobody goes", x.go(1), 0);
        Crossings.stands("in the first second", x, Intergreen.FLASHING, Intergreen.NONE);
        Check.text("never shown", Crossings.shown(x, 0), "----");
        Check.same("its wait became 0, then 1 by its queue", x.ofPhase(0, 4), 1);
        Check.same("it was 3", x.ofPhase(0, 5), 3);
        x.breaks(1, Intergreen.RED, false);
        x.start(1);
        x.go(5);
        Check.text("its green ended in the second 3", Crossings.shown(x, 1), "----RRRRG");

        Intergreen pressed = greenUnseen();
        pressed.start(0);
        pressed.go(1);
        Check.same("its button is pressed no more", pressed.ofPhase(0, 6), 0);
        Check.same("its wait became 0", pressed.ofPhase(0, 4), 0);
        Check.same("no green", pressed.ofPhase(0, 1), 0);
    }

    /** STOPPED, the button of 0 is pressed since 3 seconds, and a red lamp of 1, which it meets, is broken. */
    private static Intergreen greenUnseen() {
        Intergreen x = meeting(5, 9);
        x.press(0);
        x.breaks(1, Intergreen.RED, true);
        x.go(3);
        return x;
    }

    private static void watcherWhileChanging() {
        Intergreen x = Crossings.alone(4, 1, 9, 0);
        x.meet(0, 1, 9, 9);
        x.meet(2, 3, 9, 9);
        x.stage(6);
        x.start(0);
        x.press(2);
        x.go(2);
        x.press(1);
        x.go(1);
        Crossings.stands("2 is GREEN, 1 is not yet", x, Intergreen.CHANGING, 4);
        x.breaks(3, Intergreen.RED, true);
        x.go(1);
        Crossings.stands("3 meets 2", x, Intergreen.FLASHING, Intergreen.NONE);
        Check.text("shown", Crossings.shown(x, 2), "RGG-");
    }

    /** "if THE LIGHTS are ON or CHANGING" */
    private static void watcherOfStoppedLights() {
        Intergreen x = meeting(5, 5);
        x.breaks(1, Intergreen.RED, true);
        x.go(3);
        Crossings.stands("never started", x, Intergreen.STOPPED, Intergreen.NONE);
        x.breaks(1, Intergreen.RED, false);
        x.start(0);
        x.go(1);
        x.breaks(1, Intergreen.RED, true);
        x.stop();
        x.go(3);
        Crossings.stands("stopped", x, Intergreen.STOPPED, Intergreen.NONE);
    }

    /** "THE LIGHTS are FLASHING, and each PHASE is RED": the first and the last, GREEN and AMBER. */
    private static void flashingMakesEachRed() {
        Intergreen x = Crossings.phases(8, 1, 9, 0);
        x.meet(6, 3, 1, 1);
        x.stage(0x81);
        x.stage(0x42);
        x.start(0);
        x.press(6);
        x.go(2);
        x.breaks(3, Intergreen.RED, true);
        x.go(1);
        for (int phase = 0; phase < 8; phase++) {
            Check.same("RED: " + phase, x.ofPhase(phase, 0), Intergreen.RED);
            Check.same("no green: " + phase, x.ofPhase(phase, 1), 0);
            Check.same("DARK: " + phase, x.lamp(phase, 2), Intergreen.DARK);
        }
        Check.text("GREEN until then", Crossings.shown(x, 6), "RG-");
        Check.text("AMBER until then", Crossings.shown(x, 7), "GA-");
    }

    /** "the green of those that were GREEN ends in this second": so many seconds from it on, not one less. */
    private static void flashingEndsGreensInThisSecond() {
        for (int between : new int[] {1, 2, 20}) {
            Intergreen x = meeting(between, 9);
            x.start(0);
            x.go(3);
            x.breaks(1, Intergreen.RED, true);
            x.go(1);
            x.breaks(1, Intergreen.RED, false);
            x.start(1);
            x.go(between);
            Check.text("RED ever since", Crossings.shown(x, 0), "GGG-" + "R".repeat(between));
            Check.text("from the second 4 on", Crossings.shown(x, 1, 4), "R".repeat(between - 1) + "G");
        }
    }

    private static void flashingKeepsTheEndOfAnAmber() {
        Intergreen x = besideAmber(2);
        x.breaks(1, Intergreen.RED, false);
        x.start(1);
        x.go(18);
        Check.text("20 seconds from the second 1 on", Crossings.shown(x, 1), "RRR-" + "R".repeat(17) + "G");
    }

    private static void flashingUntilStoppedOrStarted() {
        Intergreen x = Started.FLASHING.make();
        x.go(200);
        Crossings.stands("broken", x, Intergreen.FLASHING, Intergreen.NONE);
        x.breaks(1, Intergreen.RED, false);
        x.go(200);
        Crossings.stands("mended", x, Intergreen.FLASHING, Intergreen.NONE);
        x.start(0);
        x.go(1);
        Crossings.stands("started", x, Intergreen.ON, 0);
    }
}
