/** The boundary cases of 'Rounds' and of the promises 19 to 22, on the side that is allowed. */
final class EdgesOfRoundsTest {
    private EdgesOfRoundsTest() {
    }

    public static void main(String[] args) {
        changeToTheSame();
        changeWithoutSuch();
        changeOfTheMost();
        changeOfPhasesInBoth();
        changeOfTheFirstAndTheLast();
        noStages();
        oneStage();
        twoStages();
        theWayHomeCounts();
        theGreatestLeast();
        shortestAndLongest();
        eachStageOnce();
        everyRowOfSix();
        ofSeveralTheLowerAtEachPlace();
        asLongAsAllRounds();
        whileTheLightsGo();
        Check.end();
    }

    private static void changeToTheSame() {
        Intergreen x = Crossings.full();
        for (int stage = 0; stage < 6; stage++) {
            Check.same("to itself", x.change(stage, stage), 0);
        }
    }

    /** "0 without such": the same phases, one that has more, one that has less, two that do not meet. */
    private static void changeWithoutSuch() {
        Intergreen x = Crossings.phases(4, 1, 1, 0);
        x.meet(0, 3, 20, 20);
        for (int set : new int[] {0x3, 0x3, 0x7, 0x1, 0x4}) {
            x.stage(set);
        }
        for (int from = 0; from < 5; from++) {
            for (int to = 0; to < 5; to++) {
                Check.same("from " + from + " to " + to, x.change(from, to), 0);
            }
        }
    }

    /** "as many seconds as are the most that must be between": wherever the most stands, in this order. */
    private static void changeOfTheMost() {
        for (int most = 0; most < 4; most++) {
            Intergreen x = Crossings.phases(4, 1, 1, 0);
            for (int two = 0; two < 4; two++) {
                x.meet(two / 2, 2 + two % 2, two == most ? 20 : 19, two == most ? 2 : 1);
            }
            x.stage(0x3);
            x.stage(0xC);
            Check.same("there", x.change(0, 1), 20);
            Check.same("back", x.change(1, 0), 2);
        }
    }

    /** "a PHASE that the former has and the latter has not, and one that the latter has and the former has not" */
    private static void changeOfPhasesInBoth() {
        Intergreen x = Crossings.phases(5, 1, 1, 0);
        x.meet(1, 2, 3, 4);
        x.meet(0, 4, 20, 20);
        x.meet(3, 4, 20, 20);
        x.stage(0x0B);
        x.stage(0x0D);
        Check.same("there", x.change(0, 1), 3);
        Check.same("back", x.change(1, 0), 4);
    }

    private static void changeOfTheFirstAndTheLast() {
        Intergreen x = Crossings.full();
        Check.same("from the phase 0 to the phase 7", x.change(0, 1), 1);
        Check.same("from the phase 7 to the phase 0", x.change(1, 0), 20);
        Check.same("from the first to the last, 0 is in both", x.change(0, 5), 0);
        Check.same("from the last to the stage of 7", x.change(5, 1), 1);
        Check.same("from 2 to 3", x.change(2, 3), 6);
        Check.same("from 3 to 2", x.change(3, 2), 5);
    }

    /** "NONE without STAGES": with no phase, and with all of them. */
    private static void noStages() {
        Check.round(new Intergreen(), Intergreen.NONE);
        Intergreen x = Crossings.phases(8, 30, 30, 0);
        x.meet(0, 1, 20, 20);
        Check.round(x, Intergreen.NONE);
    }

    private static void oneStage() {
        Check.round(Crossings.alone(1, 1, 1, 0), 1, 0);
        Check.round(Crossings.alone(1, 30, 30, 0), 30, 0);
    }

    private static void twoStages() {
        Intergreen x = Crossings.alone(2, 30, 30, 0);
        Check.round(x, 60, 0, 1);
        x.meet(0, 1, 20, 1);
        Check.round(x, 81, 0, 1);
    }

    /** "and from the last one to the STAGE 0": the way there is short, the way home decides. */
    private static void theWayHomeCounts() {
        Check.round(new int[][] {{0, 1, 5}, {5, 0, 1}, {20, 5, 0}}, 3 + 15, 0, 2, 1);
        Check.round(new int[][] {{0, 1, 5}, {5, 0, 1}, {12, 5, 0}}, 3 + 14, 0, 1, 2);
    }

    /** "for each STAGE the greatest least of its PHASES", the first one's or the last one's. */
    private static void theGreatestLeast() {
        Intergreen x = new Intergreen();
        for (int number = 0; number < 8; number++) {
            x.phase(number == 0 || number == 7 ? 30 : number, 100, 0);
        }
        x.stage(0x07);
        Check.same("of 30, 1, 2", x.round(), 30);
        x.stage(0xC0);
        Check.same("of 6, 30", x.round(), 60);
        x.stage(0x7C);
        Check.same("of 2, 3, 4, 5, 6", x.round(), 66);
        Check.round(x, 66, 0, 1, 2);
    }

    private static void shortestAndLongest() {
        Intergreen shortest = Crossings.phases(1, 1, 1, 0);
        Intergreen longest = Crossings.phases(6, 30, 30, 0);
        for (int one = 0; one < 6; one++) {
            for (int other = 0; other < one; other++) {
                longest.meet(one, other, 20, 20);
            }
        }
        for (int stage = 0; stage < 6; stage++) {
            shortest.stage(1);
            longest.stage(1 << stage);
        }
        Check.round(shortest, 6, 0, 1, 2, 3, 4, 5);
        Check.round(longest, 6 * 30 + 6 * 20, 0, 1, 2, 3, 4, 5);
    }

    /** "a row of all STAGES, each once": though a detour by another one would be short, and leaving one out too. */
    private static void eachStageOnce() {
        Check.round(new int[][] {{0, 1, 1, 1}, {1, 0, 20, 20}, {1, 20, 0, 20}, {1, 20, 20, 0}}, 4 + 42,
            0, 1, 2, 3);
    }

    /** Each row of six that begins with 0 is the shortest one somewhere. */
    private static void everyRowOfSix() {
        for (int number = 0; number < 120; number++) {
            int[] row = rowOf(number);
            int[][] seconds = filled(6, 7);
            for (int place = 0; place < 6; place++) {
                seconds[row[place]][row[(place + 1) % 6]] = 3;
            }
            Check.round(seconds, 6 + 18, row);
        }
    }

    /** The number tells, digit by digit, with which earlier place each place is swapped. */
    private static int[] rowOf(int number) {
        int[] row = {0, 1, 2, 3, 4, 5};
        int digits = number;
        for (int place = 5; place > 1; place--) {
            swap(row, place, 1 + digits % place);
            digits /= place;
        }
        return row;
    }

    private static void swap(int[] row, int one, int other) {
        int kept = row[one];
        row[one] = row[other];
        row[other] = kept;
    }

    private static int[][] filled(int count, int seconds) {
        int[][] all = new int[count][count];
        for (int[] from : all) {
            java.util.Arrays.fill(from, seconds);
        }
        return all;
    }

    /** "of several the one that has, looking from its beginning on, the lower STAGE at the first place with unlike
     * ones": two rows that are as short as each other and shorter than all others. */
    private static void ofSeveralTheLowerAtEachPlace() {
        tie(new int[] {0, 1, 2, 3, 4, 5}, new int[] {0, 1, 2, 3, 5, 4});
        tie(new int[] {0, 3, 1, 2, 4, 5}, new int[] {0, 3, 1, 4, 5, 2});
        tie(new int[] {0, 5, 1, 4, 2, 3}, new int[] {0, 5, 2, 1, 4, 3});
        tie(new int[] {0, 1, 5, 4, 3, 2}, new int[] {0, 2, 1, 3, 5, 4});
        tie(new int[] {0, 4, 5, 3, 2, 1}, new int[] {0, 5, 1, 2, 3, 4});
    }

    private static void tie(int[] due, int[] other) {
        int[][] seconds = filled(6, 20);
        for (int[] row : new int[][] {due, other}) {
            for (int place = 0; place < 6; place++) {
                seconds[row[place]][row[(place + 1) % 6]] = 1;
            }
        }
        Check.round(seconds, 6 + 6, due);
    }

    /** "Returns the same, found by trying all rounds" */
    private static void asLongAsAllRounds() {
        for (int count = 1; count <= 6; count++) {
            for (int turn = 1; turn <= 20; turn++) {
                int[][] seconds = new int[count][count];
                for (int cell = 0; cell < count * count; cell++) {
                    seconds[cell / count][cell % count] = 1 + (cell * cell * turn + 3 * turn + cell) % 20;
                }
                Intergreen x = Crossings.between(seconds);
                Check.same("round and roundAnew", x.round(), x.roundAnew());
                Check.same("as long as its row", x.round(), secondsOf(x, count));
            }
        }
    }

    private static int secondsOf(Intergreen x, int count) {
        int sum = count;
        for (int place = 0; place < count; place++) {
            sum += x.change(x.inRound(place), x.inRound((place + 1) % count));
        }
        return sum;
    }

    private static void whileTheLightsGo() {
        for (Started started : Started.values()) {
            Check.round(started.make(), 5 + 4 + 4 + 6, 0, 1);
        }
    }
}
