/** The boundary cases of 'A second', step 1: which stage is wanted, and when the one that is on may end. */
final class EdgesOfStepOneTest {
    private EdgesOfStepOneTest() {
    }

    public static void main(String[] args) {
        changingIsNotTurnedAside();
        stoppedWantsNothing();
        flashingWantsNothing();
        aSingleStage();
        nothingDemanded();
        theFirstBehindRoundTheEnd();
        aStageByItsLastPhase();
        theSameStageTwice();
        tramFromEachToEach();
        tramForTheStageThatIsOn();
        tramTakesTheLowest();
        tramThatNoStageHas();
        leastAndOneLess();
        mostAndOneLess();
        restAndOneMore();
        restBehindTheLastVehicle();
        restOf0WithAQueue();
        tramDoesNotHeedTheRest();
        eachOfThemByItsLeast();
        eachOfThemByItsOwn();
        thoseThatStayAreNotLookedAt();
        thereMayBeNone();
        noneLeavesAndOneMustWait();
        Check.end();
    }

    /** "If THE LIGHTS are ON": while they are CHANGING nothing else is wanted. */
    private static void changingIsNotTurnedAside() {
        Intergreen x = Crossings.alone(3, 1, 9, 0);
        x.meet(0, 1, 5, 5);
        x.start(0);
        x.press(1);
        x.go(2);
        x.ask(2);
        x.press(0);
        x.go(4);
        Crossings.stands("the change to 1 goes on", x, Intergreen.CHANGING, 1);
        x.go(1);
        Crossings.stands("in the second 6", x, Intergreen.ON, 1);
        x.go(1);
        Crossings.stands("the tram, as 1 was on", x, Intergreen.ON, 2);
    }

    private static void stoppedWantsNothing() {
        Intergreen x = Crossings.alone(3, 1, 9, 0);
        x.ask(1);
        x.press(2);
        x.go(3);
        Crossings.stands("never started", x, Intergreen.STOPPED, Intergreen.NONE);
        x.start(0);
        x.stop();
        x.go(3);
        Crossings.stands("stopped", x, Intergreen.STOPPED, Intergreen.NONE);
    }

    private static void flashingWantsNothing() {
        Intergreen x = Started.FLASHING.make();
        x.breaks(1, Intergreen.RED, false);
        x.ask(1);
        x.press(0);
        x.go(30);
        Crossings.stands("flashing", x, Intergreen.FLASHING, Intergreen.NONE);
    }

    /** There is no stage behind the only one, not even itself: its green goes on beyond its most. */
    private static void aSingleStage() {
        Intergreen x = Crossings.phases(2, 1, 9, 0);
        x.stage(1);
        x.start(0);
        x.press(1);
        x.arrive(1, 5);
        x.go(300);
        Crossings.stands("the only one", x, Intergreen.ON, 0);
        Check.same("green", x.ofPhase(0, 1), 300);
    }

    private static void nothingDemanded() {
        Intergreen x = Crossings.alone(6, 1, 1, 0);
        x.start(5);
        x.go(300);
        Crossings.stands("nothing is wanted", x, Intergreen.ON, 5);
        Check.same("green", x.ofPhase(5, 1), 300);
        x.press(4);
        x.go(1);
        Crossings.stands("the last one behind 5", x, Intergreen.ON, 4);
    }

    /** "of the STAGES behind the one that is on, by numbers, beginning with 0 again behind the last one, the first one
     * that has a DEMANDED PHASE": each two of six from each one. */
    private static void theFirstBehindRoundTheEnd() {
        for (int on = 0; on < 6; on++) {
            for (int one = 1; one < 6; one++) {
                demandTwo(on, (on + one) % 6, (on + one) % 6);
                for (int more = one + 1; more < 6; more++) {
                    demandTwo(on, (on + one) % 6, (on + more) % 6);
                }
            }
        }
    }

    private static void demandTwo(int on, int nearer, int farther) {
        Intergreen x = Crossings.alone(6, 1, 9, 0);
        x.start(on);
        x.go(1);
        x.arrive(farther, 1);
        x.press(nearer);
        x.go(1);
        Crossings.stands("on " + on + ", demanded " + nearer + " and " + farther, x, Intergreen.ON, nearer);
    }

    /** "the first one that has a DEMANDED PHASE": any one of its phases, the lowest and the highest. */
    private static void aStageByItsLastPhase() {
        for (int phase = 1; phase < 8; phase++) {
            Intergreen x = Crossings.phases(8, 1, 9, 0);
            x.stage(0x01);
            x.stage(0x0E);
            x.stage(0xF0);
            x.stage(0xFE);
            x.start(0);
            x.go(1);
            x.press(phase);
            x.go(1);
            Crossings.stands("demanded " + phase, x, Intergreen.ON, phase < 4 ? 1 : 2);
        }
    }

    /** "which the one that is on has not": a queue at a phase that is on brings no other stage that has it. */
    private static void theSameStageTwice() {
        Intergreen x = Crossings.phases(2, 1, 1, 0);
        x.stage(1);
        x.stage(1);
        x.stage(3);
        x.start(0);
        x.arrive(0, 50);
        x.go(9);
        Crossings.stands("it is on", x, Intergreen.ON, 0);
        x.press(1);
        x.go(1);
        Crossings.stands("by the other phase", x, Intergreen.ON, 2);
    }

    /** "if a PHASE is ASKED for, ... otherwise the lowest one that has it": whatever is DEMANDED. */
    private static void tramFromEachToEach() {
        for (int on = 0; on < 6; on++) {
            for (int asked = 0; asked < 6; asked++) {
                Intergreen x = Crossings.alone(6, 1, 9, 0);
                x.start(on);
                x.go(1);
                for (int phase = 0; phase < 6; phase++) {
                    x.press(phase);
                }
                x.ask(asked);
                x.go(1);
                Crossings.stands("on " + on + ", asked " + asked, x, Intergreen.ON, asked);
            }
        }
    }

    /** "the one that is on, if it has that PHASE": beyond its most, and though others are DEMANDED. */
    private static void tramForTheStageThatIsOn() {
        Intergreen x = Crossings.alone(2, 1, 2, 0);
        x.start(0);
        x.ask(0);
        x.press(1);
        x.go(200);
        Crossings.stands("asked for", x, Intergreen.ON, 0);
        Check.same("green", x.ofPhase(0, 1), 200);
        x.cancel();
        x.go(1);
        Crossings.stands("cancelled", x, Intergreen.ON, 1);
    }

    private static void tramTakesTheLowest() {
        int[] due = {1, 1, 2, 1, 4, 1};
        for (int on = 0; on < 6; on++) {
            Intergreen x = Crossings.phases(6, 1, 9, 0);
            for (int set : new int[] {0x01, 0x06, 0x04, 0x08, 0x14, 0x20}) {
                x.stage(set);
            }
            x.start(on);
            x.ask(2);
            x.go(2);
            Crossings.stands("on " + on + ", asked 2", x, Intergreen.ON, due[on]);
        }
    }

    /** "if none has it, or nothing is ASKED for": by what is DEMANDED, so that the rest is heeded. */
    private static void tramThatNoStageHas() {
        Intergreen x = Crossings.phases(3, 1, 9, 4);
        x.stage(1);
        x.stage(2);
        x.start(0);
        x.ask(2);
        x.go(1);
        x.press(2);
        x.go(1);
        Crossings.stands("nothing is wanted", x, Intergreen.ON, 0);
        x.press(1);
        x.go(2);
        Crossings.stands("its rest became 0 just now", x, Intergreen.ON, 0);
        x.go(1);
        Crossings.stands("its rest was 0", x, Intergreen.ON, 1);
    }

    /** "if the green of each of them ... is its least or more", for a demand and for a tram. */
    private static void leastAndOneLess() {
        for (int least : new int[] {1, 2, 29, 30}) {
            Intergreen demanded = Crossings.alone(2, least, 120, 0);
            demanded.start(0);
            demanded.press(1);
            demanded.go(least + 1);
            Check.text("demanded, least " + least, Crossings.shown(demanded, 0), "G".repeat(least) + "A");
            Intergreen asked = Crossings.alone(2, least, 120, 10);
            asked.start(0);
            asked.ask(1);
            asked.go(least + 1);
            Check.text("asked, least " + least, Crossings.shown(asked, 0), "G".repeat(least) + "A");
        }
    }

    /** "or its green is its most or more", with a rest above 0 all the while. */
    private static void mostAndOneLess() {
        for (int most : new int[] {1, 2, 119, 120}) {
            mostWithLeast(1, most);
        }
        mostWithLeast(30, 30);
        mostWithLeast(30, 31);
    }

    private static void mostWithLeast(int least, int most) {
        Intergreen x = Crossings.alone(2, least, most, 10);
        Crossings.fill(x, 0);
        x.start(0);
        x.press(1);
        x.go(most);
        Check.same("rest", x.ofPhase(0, 2), 10);
        x.go(1);
        Check.text("most " + most, Crossings.shown(x, 0), "G".repeat(most) + "A");
    }

    /** "its rest is 0": a gap of 0 and one of 1 hold it no longer than its least. */
    private static void restAndOneMore() {
        for (int gap : new int[] {0, 1, 2, 9, 10}) {
            Intergreen x = Crossings.alone(2, 1, 120, gap);
            x.start(0);
            x.press(1);
            x.go(Math.max(1, gap) + 1);
            Check.text("gap " + gap, Crossings.shown(x, 0), "G".repeat(Math.max(1, gap)) + "A");
        }
    }

    private static void restBehindTheLastVehicle() {
        for (int gap : new int[] {1, 2, 10}) {
            for (int vehicles : new int[] {1, 2, 50}) {
                Intergreen x = Crossings.alone(2, 1, 120, gap);
                x.arrive(0, vehicles);
                x.start(0);
                x.press(1);
                x.go(vehicles + gap + 1);
                String due = "G".repeat(vehicles + gap) + "A";
                Check.text("gap " + gap + ", vehicles " + vehicles, Crossings.shown(x, 0), due);
            }
        }
    }

    /** A gap of 0 lets the green end with vehicles in the queue. */
    private static void restOf0WithAQueue() {
        Intergreen x = Crossings.alone(2, 3, 120, 0);
        x.arrive(0, 50);
        x.start(0);
        x.press(1);
        x.go(4);
        Check.text("its least alone", Crossings.shown(x, 0), "GGGA");
        Check.same("those that are left", x.ofPhase(0, 3), 47);
    }

    /** "or the wanted one was found by what is ASKED for" */
    private static void tramDoesNotHeedTheRest() {
        Intergreen x = Crossings.alone(2, 1, 120, 10);
        x.arrive(0, 50);
        x.start(0);
        x.press(1);
        x.go(5);
        Check.same("rest", x.ofPhase(0, 2), 10);
        x.ask(1);
        x.go(1);
        Check.text("at once", Crossings.shown(x, 0), "GGGGGA");
        Check.same("no rest, not GREEN", x.ofPhase(0, 2), 0);
        Check.same("no green, not GREEN", x.ofPhase(0, 1), 0);
    }

    /** Two phases on, each told by its least, most and gap; a third one that is wanted. */
    private static Intergreen twoOn(int[] one, int[] other) {
        Intergreen x = new Intergreen();
        x.phase(one[0], one[1], one[2]);
        x.phase(other[0], other[1], other[2]);
        x.phase(1, 9, 0);
        x.stage(3);
        x.stage(4);
        x.start(0);
        return x;
    }

    /** Both orders of the two, demanded or asked for: both end in that second. */
    private static void bothEnd(String told, int[] one, int[] other, boolean isAsked, int second) {
        for (int[][] two : new int[][][] {{one, other}, {other, one}}) {
            Intergreen x = twoOn(two[0], two[1]);
            x.arrive(0, 50);
            x.arrive(1, 50);
            if (isAsked) {
                x.ask(2);
            } else {
                x.press(2);
            }
            x.go(second + 1);
            Check.text(told, Crossings.shown(x, 0), "G".repeat(second) + "A");
            Check.text(told, Crossings.shown(x, 1), "G".repeat(second) + "A");
        }
    }

    private static void eachOfThemByItsLeast() {
        bothEnd("demanded", new int[] {1, 9, 0}, new int[] {5, 9, 0}, false, 5);
        bothEnd("asked", new int[] {1, 9, 0}, new int[] {5, 9, 10}, true, 5);
    }

    /** "for each of them, its rest is 0, or its green is its most or more" */
    private static void eachOfThemByItsOwn() {
        bothEnd("one by its rest, one by its most", new int[] {1, 120, 0}, new int[] {1, 4, 10}, false, 4);
        bothEnd("both by their most", new int[] {1, 3, 10}, new int[] {1, 7, 10}, false, 7);
        bothEnd("one by its rest, behind 50 vehicles", new int[] {1, 120, 0}, new int[] {1, 120, 3}, false, 53);
        bothEnd("one by its least, one by its most", new int[] {6, 6, 0}, new int[] {1, 5, 10}, false, 6);
    }

    /** "each PHASE that the one that is on has, and the wanted one has not" */
    private static void thoseThatStayAreNotLookedAt() {
        Intergreen x = new Intergreen();
        x.phase(1, 9, 0);
        x.phase(30, 120, 10);
        x.phase(1, 9, 0);
        x.stage(3);
        x.stage(6);
        x.start(0);
        x.press(2);
        x.go(2);
        Crossings.stands("at once", x, Intergreen.ON, 1);
        Check.text("the one that leaves", Crossings.shown(x, 0), "GA");
        Check.text("the one that stays", Crossings.shown(x, 1), "GG");
        Check.same("its green goes on", x.ofPhase(1, 1), 2);
        Check.same("its rest goes on", x.ofPhase(1, 2), 8);
    }

    /** "(there may be none)": a stage with more phases, demanded or asked for, in the same second. */
    private static void thereMayBeNone() {
        for (boolean isAsked : new boolean[] {false, true}) {
            Intergreen x = Crossings.phases(2, 30, 120, 10);
            x.stage(1);
            x.stage(3);
            x.start(0);
            x.go(1);
            if (isAsked) {
                x.ask(1);
            } else {
                x.press(1);
            }
            x.go(1);
            Crossings.stands("at once", x, Intergreen.ON, 1);
            Check.text("the first one", Crossings.shown(x, 0), "GG");
            Check.text("the one more", Crossings.shown(x, 1), "RG");
        }
    }

    private static void noneLeavesAndOneMustWait() {
        Intergreen x = Crossings.phases(3, 1, 9, 0);
        x.meet(1, 2, 9, 5);
        x.stage(4);
        x.stage(1);
        x.stage(3);
        x.start(0);
        x.press(0);
        x.go(2);
        x.press(1);
        x.go(4);
        Crossings.stands("4 seconds behind the end of 2", x, Intergreen.CHANGING, 2);
        x.go(1);
        Crossings.stands("5 seconds behind the end of 2", x, Intergreen.ON, 2);
        Check.text("0 stays", Crossings.shown(x, 0), "RGGGGGG");
        Check.text("1 waits", Crossings.shown(x, 1), "RRRRRRG");
        Check.text("2 ended in the second 1", Crossings.shown(x, 2), "GAAARRR");
    }
}
