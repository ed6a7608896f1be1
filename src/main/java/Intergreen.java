/** The lights of a crossing, second by second. The document DOC.md tells what each call promises. */
public final class Intergreen {
    public static final int NONE = -1;
    public static final int RED = 0, GREEN = 1, AMBER = 2, DARK = 3;
    public static final int STOPPED = 0, CHANGING = 1, ON = 2, FLASHING = 3;

    private static final int MOST_PHASES = 8, MOST_STAGES = 6;
    private static final int MOST_LEAST = 30, MOST_GREEN = 120, MOST_GAP = 10, MOST_BETWEEN = 20;
    private static final int MOST_SECONDS = 5000, MOST_SECONDS_A_CALL = 1000;
    private static final int MOST_QUEUE = 1000, MOST_VEHICLES_A_CALL = 50;
    private static final int SECONDS_OF_AMBER = 3;
    private static final int LAST_OF_PHASE = 6, LAST_OF_LIGHTS = 4;

    private final Plan plan;
    private final Log log;
    private final Lights lights;
    private final Rounds rounds;

    public Intergreen() {
        plan = new Plan();
        log = new Log();
        lights = new Lights(plan, log);
        rounds = new Rounds(plan);
    }

    // ---- phases, stages

    public int phase(int least, int most, int gap) throws IllegalArgumentException, IllegalStateException {
        if (!isWithin(least, 1, MOST_LEAST) || !isWithin(most, least, MOST_GREEN) || !isWithin(gap, 0, MOST_GAP)) {
            throw new IllegalArgumentException("least, most or gap is out of range");
        }
        if (lights.wereStarted || plan.phaseCount >= MOST_PHASES) {
            throw new IllegalStateException("no phase can be told any more");
        }
        return plan.addPhase(least, most, gap);
    }

    public void meet(int one, int other, int there, int back)
            throws IndexOutOfBoundsException, IllegalArgumentException, IllegalStateException {
        needPhase(one);
        needPhase(other);
        if (one == other || !isWithin(there, 1, MOST_BETWEEN) || !isWithin(back, 1, MOST_BETWEEN)) {
            throw new IllegalArgumentException("the same phase twice, or seconds out of range");
        }
        if (lights.wereStarted || plan.hasStageWithBoth(one, other)) {
            throw new IllegalStateException("the lights were started, or a stage has both");
        }
        plan.setBetween(one, other, there);
        plan.setBetween(other, one, back);
    }

    public int stage(int phases) throws IllegalArgumentException, IllegalStateException {
        if (phases == 0 || (phases >>> plan.phaseCount) != 0) {
            throw new IllegalArgumentException("a stage of no phase, or of one that there is not");
        }
        if (lights.wereStarted || plan.hasTwoThatMeet(phases) || plan.stageCount >= MOST_STAGES) {
            throw new IllegalStateException("no such stage can be told");
        }
        return plan.addStage(phases);
    }

    // ---- the lights

    public void start(int stage) throws IndexOutOfBoundsException, IllegalStateException {
        needStage(stage);
        if (lights.areWorking()) {
            throw new IllegalStateException("the lights are changing or on");
        }
        lights.begin(stage);
    }

    public void stop() throws IllegalStateException {
        if (lights.mode == STOPPED) {
            throw new IllegalStateException("the lights are stopped");
        }
        lights.fallBack(STOPPED);
    }

    public boolean press(int phase) throws IndexOutOfBoundsException {
        needPhase(phase);
        Phase pressed = plan.phases[phase];
        pressed.pushButton();
        return pressed.isDemanded();
    }

    public int arrive(int phase, int vehicles)
            throws IndexOutOfBoundsException, IllegalArgumentException, IllegalStateException {
        needPhase(phase);
        if (!isWithin(vehicles, 1, MOST_VEHICLES_A_CALL)) {
            throw new IllegalArgumentException("vehicles is out of range");
        }
        Phase reached = plan.phases[phase];
        if (reached.queue + vehicles > MOST_QUEUE) {
            throw new IllegalStateException("the queue would be too long");
        }
        reached.queue += vehicles;
        return reached.queue;
    }

    public void ask(int phase) throws IndexOutOfBoundsException, IllegalStateException {
        needPhase(phase);
        if (lights.asked != NONE) {
            throw new IllegalStateException("a phase is asked for");
        }
        lights.asked = phase;
    }

    public int cancel() throws IllegalStateException {
        if (lights.asked == NONE) {
            throw new IllegalStateException("nothing is asked for");
        }
        int cancelled = lights.asked;
        lights.asked = NONE;
        return cancelled;
    }

    public boolean breaks(int phase, int colour, boolean isSo)
            throws IndexOutOfBoundsException, IllegalArgumentException {
        needPhase(phase);
        if (!isWithin(colour, RED, AMBER)) {
            throw new IllegalArgumentException("colour is out of range");
        }
        Phase lit = plan.phases[phase];
        boolean was = lit.isBroken(colour);
        lit.setBroken(colour, isSo);
        return was;
    }

    public int go(int seconds) throws IllegalArgumentException, IllegalStateException {
        if (!isWithin(seconds, 1, MOST_SECONDS_A_CALL)) {
            throw new IllegalArgumentException("seconds is out of range");
        }
        if (lights.now + seconds > MOST_SECONDS) {
            throw new IllegalStateException("there would be too many seconds");
        }
        int goneBefore = lights.gone;
        for (int second = 0; second < seconds; second++) {
            lights.passSecond();
        }
        return lights.gone - goneBefore;
    }

    // ---- what is asked

    public int lamp(int phase, int second) throws IndexOutOfBoundsException {
        needPhase(phase);
        if (!isWithin(second, 0, lights.now - 1)) {
            throw new IndexOutOfBoundsException("that second has not gone by");
        }
        return log.shown(phase, second);
    }

    public int ofPhase(int phase, int what) throws IndexOutOfBoundsException, IllegalArgumentException {
        needPhase(phase);
        if (!isWithin(what, 0, LAST_OF_PHASE)) {
            throw new IllegalArgumentException("what is out of range");
        }
        return plan.phases[phase].tell(what);
    }

    public int of(int what) throws IllegalArgumentException {
        if (!isWithin(what, 0, LAST_OF_LIGHTS)) {
            throw new IllegalArgumentException("what is out of range");
        }
        return lights.tell(what);
    }

    public long delay() {
        return lights.waited;
    }

    public float delayEach() {
        if (lights.gone == 0) {
            return 0;
        }
        return (float) lights.waited / (float) lights.gone;
    }

    public int seen(int one, int other) throws IndexOutOfBoundsException, IllegalArgumentException {
        needPhase(one);
        needPhase(other);
        if (one == other) {
            throw new IllegalArgumentException("the same phase twice");
        }
        return log.leastBetween(one, other, lights.now);
    }

    public int change(int from, int to) throws IndexOutOfBoundsException {
        needStage(from);
        needStage(to);
        return plan.secondsToChange(from, to);
    }

    public int round() {
        return rounds.shortest();
    }

    public int roundAnew() {
        return rounds.shortestOfAll();
    }

    public int inRound(int place) throws IndexOutOfBoundsException {
        if (!isWithin(place, 0, plan.stageCount - 1)) {
            throw new IndexOutOfBoundsException("there are not so many stages");
        }
        return rounds.stageAt(place);
    }

    private static boolean isWithin(int number, int lowest, int highest) {
        return lowest <= number && number <= highest;
    }

    private static boolean has(int set, int phase) {
        return (set >> phase & 1) != 0;
    }

    private void needPhase(int number) {
        if (!isWithin(number, 0, plan.phaseCount - 1)) {
            throw new IndexOutOfBoundsException("there is no such phase");
        }
    }

    private void needStage(int number) {
        if (!isWithin(number, 0, plan.stageCount - 1)) {
            throw new IndexOutOfBoundsException("there is no such stage");
        }
    }

    /** One phase: what was told of it, and how it is now. */
    private static final class Phase {
        int least;
        int most;
        int gap;
        int colour = RED;
        int green;
        int rest;
        int queue;
        int wait;
        int longestWait;
        int ended = NONE;
        boolean isPressed;
        int brokenLamps;

        boolean isDemanded() {
            return colour != GREEN && (isPressed || queue > 0);
        }

        boolean isBroken(int lamp) {
            return has(brokenLamps, lamp);
        }

        void setBroken(int lamp, boolean isSo) {
            int bit = 1 << lamp;
            brokenLamps = isSo ? brokenLamps | bit : brokenLamps & ~bit;
        }

        void pushButton() {
            if (colour != GREEN) {
                isPressed = true;
            }
        }

        boolean mayEnd(boolean isForTram) {
            return green >= least && (isForTram || rest == 0 || green >= most);
        }

        void turnGreen() {
            colour = GREEN;
            green = 0;
            rest = gap;
            wait = 0;
            isPressed = false;
        }

        void turnAmber(int second) {
            colour = AMBER;
            ended = second;
        }

        void turnRed(int second) {
            // An amber one's green ended before: that second must stay.
            if (colour == GREEN) {
                ended = second;
            }
            colour = RED;
        }

        void fade(int second) {
            if (colour == AMBER && second - ended >= SECONDS_OF_AMBER) {
                colour = RED;
            }
        }

        /** Whether a phase that must be so many seconds behind this one's green may begin. */
        boolean lets(int second, int secondsBetween) {
            return colour != GREEN && (ended == NONE || second - ended >= secondsBetween);
        }

        int shown() {
            return isBroken(colour) ? DARK : colour;
        }

        /** Returns how many vehicles went. */
        int passSecond() {
            if (colour == GREEN) {
                green++;
                if (rest > 0) {
                    rest--;
                }
                return letOneGo();
            }
            if (isDemanded()) {
                wait++;
                longestWait = Math.max(longestWait, wait);
            }
            return 0;
        }

        private int letOneGo() {
            if (queue == 0) {
                return 0;
            }
            queue--;
            rest = gap;
            return 1;
        }

        int tell(int what) {
            switch (what) {
                case 0:
                    return colour;
                case 1:
                    return colour == GREEN ? green : 0;
                case 2:
                    return colour == GREEN ? rest : 0;
                case 3:
                    return queue;
                case 4:
                    return wait;
                case 5:
                    return longestWait;
                default:
                    return isDemanded() ? 1 : 0;
            }
        }
    }

    /** What is told ahead of the first start: phases, seconds between them, stages. */
    private static final class Plan {
        final Phase[] phases = new Phase[MOST_PHASES];
        int phaseCount;
        /** From the end of the first one to the beginning of the second one; 0 if they do not meet. */
        final int[][] between = new int[MOST_PHASES][MOST_PHASES];
        final int[] stages = new int[MOST_STAGES];
        int stageCount;

        Plan() {
            for (int number = 0; number < phases.length; number++) {
                phases[number] = new Phase();
            }
        }

        int addPhase(int least, int most, int gap) {
            Phase added = phases[phaseCount];
            added.least = least;
            added.most = most;
            added.gap = gap;
            return phaseCount++;
        }

        void setBetween(int ending, int beginning, int seconds) {
            between[ending][beginning] = seconds;
        }

        boolean areMeeting(int one, int other) {
            return between[one][other] > 0;
        }

        /** The phases of a stage; none for NONE. */
        int setOf(int stage) {
            return isWithin(stage, 0, stageCount - 1) ? stages[stage] : 0;
        }

        int addStage(int set) {
            stages[stageCount] = set;
            return stageCount++;
        }

        boolean hasStageWithBoth(int one, int other) {
            for (int stage = 0; stage < stageCount; stage++) {
                if (has(setOf(stage), one) && has(setOf(stage), other)) {
                    return true;
                }
            }
            return false;
        }

        boolean hasTwoThatMeet(int set) {
            for (int one = 0; one < phaseCount; one++) {
                if (has(set, one) && mostBetween(one, set) > 0) {
                    return true;
                }
            }
            return false;
        }

        int mostBetween(int ending, int setOfBeginning) {
            int most = 0;
            for (int beginning = 0; beginning < phaseCount; beginning++) {
                if (has(setOfBeginning, beginning)) {
                    most = Math.max(most, between[ending][beginning]);
                }
            }
            return most;
        }

        int secondsToChange(int from, int to) {
            int leaving = setOf(from) & ~setOf(to);
            int coming = setOf(to) & ~setOf(from);
            int most = 0;
            for (int phase = 0; phase < phaseCount; phase++) {
                if (has(leaving, phase)) {
                    most = Math.max(most, mostBetween(phase, coming));
                }
            }
            return most;
        }

        int greatestLeast(int stage) {
            int greatest = 0;
            for (int phase = 0; phase < phaseCount; phase++) {
                if (has(setOf(stage), phase)) {
                    greatest = Math.max(greatest, phases[phase].least);
                }
            }
            return greatest;
        }

        int demandedSet() {
            int set = 0;
            for (int phase = 0; phase < phaseCount; phase++) {
                if (phases[phase].isDemanded()) {
                    set |= 1 << phase;
                }
            }
            return set;
        }
    }

    /** What the lights do in a second, step by step. */
    private static final class Lights {
        private final Plan plan;
        private final Log log;
        int mode = STOPPED;
        private int stage = NONE;
        boolean wereStarted;
        int asked = NONE;
        int now;
        int gone;
        long waited;

        Lights(Plan plan, Log log) {
            this.plan = plan;
            this.log = log;
        }

        boolean areWorking() {
            return mode == CHANGING || mode == ON;
        }

        void begin(int firstStage) {
            mode = CHANGING;
            stage = firstStage;
            wereStarted = true;
        }

        /** All phases turn red at once: the lights are stopped, or flash. */
        void fallBack(int newMode) {
            mode = newMode;
            stage = NONE;
            for (int phase = 0; phase < plan.phaseCount; phase++) {
                plan.phases[phase].turnRed(now);
            }
        }

        void passSecond() {
            leaveStage();
            enterStage();
            fadeAmbers();
            watch();
            writeLog();
            movePhases();
            addQueues();
            now++;
        }

        private void leaveStage() {
            if (mode != ON) {
                return;
            }
            int forTram = stageForTram();
            int wanted = forTram != NONE ? forTram : stageOnDemand();
            if (wanted == NONE || wanted == stage) {
                return;
            }
            int leaving = plan.setOf(stage) & ~plan.setOf(wanted);
            if (mayEnd(leaving, forTram != NONE)) {
                endGreens(leaving);
                mode = CHANGING;
                stage = wanted;
            }
        }

        private int stageForTram() {
            if (asked == NONE) {
                return NONE;
            }
            if (has(plan.setOf(stage), asked)) {
                return stage;
            }
            for (int number = 0; number < plan.stageCount; number++) {
                if (has(plan.setOf(number), asked)) {
                    return number;
                }
            }
            return NONE;
        }

        private int stageOnDemand() {
            int missing = plan.demandedSet() & ~plan.setOf(stage);
            for (int number = stage + 1; number < plan.stageCount; number++) {
                if ((plan.setOf(number) & missing) != 0) {
                    return number;
                }
            }
            for (int number = 0; number < stage; number++) {
                if ((plan.setOf(number) & missing) != 0) {
                    return number;
                }
            }
            return NONE;
        }

        private boolean mayEnd(int leaving, boolean isForTram) {
            for (int phase = 0; phase < plan.phaseCount; phase++) {
                if (has(leaving, phase) && !plan.phases[phase].mayEnd(isForTram)) {
                    return false;
                }
            }
            return true;
        }

        private void endGreens(int leaving) {
            for (int phase = 0; phase < plan.phaseCount; phase++) {
                if (has(leaving, phase)) {
                    plan.phases[phase].turnAmber(now);
                }
            }
        }

        private void enterStage() {
            if (mode != CHANGING) {
                return;
            }
            int entered = plan.setOf(stage);
            boolean areAllGreen = true;
            for (int number = 0; number < plan.phaseCount; number++) {
                Phase phase = plan.phases[number];
                if (!has(entered, number) || phase.colour == GREEN) {
                    continue;
                }
                if (mayBegin(number)) {
                    phase.turnGreen();
                } else {
                    areAllGreen = false;
                }
            }
            if (areAllGreen) {
                mode = ON;
            }
        }

        private boolean mayBegin(int beginning) {
            for (int ending = 0; ending < plan.phaseCount; ending++) {
                int seconds = plan.between[ending][beginning];
                if (seconds > 0 && !plan.phases[ending].lets(now, seconds)) {
                    return false;
                }
            }
            return true;
        }

        private void fadeAmbers() {
            for (int phase = 0; phase < plan.phaseCount; phase++) {
                plan.phases[phase].fade(now);
            }
        }

        private void watch() {
            if (!areWorking()) {
                return;
            }
            for (int number = 0; number < plan.phaseCount; number++) {
                Phase phase = plan.phases[number];
                if (phase.colour == RED && phase.isBroken(RED) && isAgainstLit(number)) {
                    fallBack(FLASHING);
                    return;
                }
            }
        }

        private boolean isAgainstLit(int one) {
            for (int other = 0; other < plan.phaseCount; other++) {
                if (plan.areMeeting(one, other) && plan.phases[other].colour != RED) {
                    return true;
                }
            }
            return false;
        }

        private void writeLog() {
            log.darken(now);
            if (!areWorking()) {
                return;
            }
            for (int phase = 0; phase < plan.phaseCount; phase++) {
                log.show(phase, now, plan.phases[phase].shown());
            }
        }

        private void movePhases() {
            for (int phase = 0; phase < plan.phaseCount; phase++) {
                gone += plan.phases[phase].passSecond();
            }
        }

        private void addQueues() {
            for (int phase = 0; phase < plan.phaseCount; phase++) {
                waited += plan.phases[phase].queue;
            }
        }

        int tell(int what) {
            switch (what) {
                case 0:
                    return mode;
                case 1:
                    return stage;
                case 2:
                    return now;
                case 3:
                    return asked;
                default:
                    return gone;
            }
        }
    }

    /** What each phase showed in each second: two bits a phase, a row of all phases a second. */
    private static final class Log {
        private static final int BITS = 2;
        private static final int ALL_DARK = (1 << BITS * MOST_PHASES) - 1;

        private final int[] rows = new int[MOST_SECONDS];

        /** Phases that are told later are dark too, so a row begins with all that there could be. */
        void darken(int second) {
            if (isWithin(second, 0, rows.length - 1)) {
                rows[second] = ALL_DARK;
            }
        }

        void show(int phase, int second, int colour) {
            if (isWithin(second, 0, rows.length - 1)) {
                int shift = BITS * phase;
                rows[second] = rows[second] & ~(DARK << shift) | colour << shift;
            }
        }

        int shown(int phase, int second) {
            return isWithin(second, 0, rows.length - 1) ? colourIn(rows[second], phase) : DARK;
        }

        private static int colourIn(int row, int phase) {
            return row >> BITS * phase & DARK;
        }

        int leastBetween(int one, int other, int seconds) {
            int least = NONE;
            int latest = NONE;
            boolean wasGreen = false;
            for (int second = 0; second < seconds && second < rows.length; second++) {
                int row = rows[second];
                boolean isGreen = colourIn(row, other) == GREEN;
                if (isGreen && !wasGreen && latest != NONE) {
                    int between = second - latest - 1;
                    least = least == NONE ? between : Math.min(least, between);
                }
                if (colourIn(row, one) == GREEN) {
                    latest = second;
                }
                wasGreen = isGreen;
            }
            return least;
        }
    }

    /** The shortest round, anew for each question: stages and seconds between may still be told. */
    private static final class Rounds {
        private static final int FAR = 1000000;

        private final Plan plan;
        private final int[][] changes = new int[MOST_STAGES][MOST_STAGES];
        /** Least seconds of changes from a stage through all that are not in a set, and home to the stage 0. */
        private final int[][] home = new int[1 << MOST_STAGES][MOST_STAGES];

        Rounds(Plan plan) {
            this.plan = plan;
        }

        int shortest() {
            if (plan.stageCount == 0) {
                return NONE;
            }
            findWaysHome();
            return secondsOfGreens() + home[1][0];
        }

        int stageAt(int place) {
            findWaysHome();
            int at = 0;
            int visited = 1;
            for (int step = 0; step < place; step++) {
                at = firstOfBest(at, visited);
                visited |= 1 << at;
            }
            return at;
        }

        int shortestOfAll() {
            if (plan.stageCount == 0) {
                return NONE;
            }
            findChanges();
            int ways = 1;
            for (int factor = 2; factor < plan.stageCount; factor++) {
                ways *= factor;
            }
            int least = FAR;
            for (int way = 0; way < ways; way++) {
                least = Math.min(least, secondsOfWay(way));
            }
            return secondsOfGreens() + least;
        }

        private int secondsOfGreens() {
            int sum = 0;
            for (int stage = 0; stage < plan.stageCount; stage++) {
                sum += plan.greatestLeast(stage);
            }
            return sum;
        }

        private void findChanges() {
            for (int from = 0; from < plan.stageCount; from++) {
                for (int to = 0; to < plan.stageCount; to++) {
                    changes[from][to] = plan.secondsToChange(from, to);
                }
            }
        }

        /** Larger sets first, as a way home goes on by a set that has one more; each set has the stage 0. */
        private void findWaysHome() {
            findChanges();
            int all = (1 << plan.stageCount) - 1;
            for (int visited = all; visited > 0; visited -= 2) {
                for (int at = 0; at < plan.stageCount; at++) {
                    if (has(visited, at)) {
                        home[visited][at] = visited == all ? changes[at][0] : leastHome(at, visited);
                    }
                }
            }
        }

        private int leastHome(int at, int visited) {
            int least = FAR;
            for (int next = 0; next < plan.stageCount; next++) {
                if (!has(visited, next)) {
                    least = Math.min(least, homeBy(at, next, visited));
                }
            }
            return least;
        }

        private int homeBy(int at, int next, int visited) {
            return changes[at][next] + home[visited | 1 << next][next];
        }

        private int firstOfBest(int at, int visited) {
            for (int next = 0; next < plan.stageCount; next++) {
                if (!has(visited, next) && homeBy(at, next, visited) == home[visited][at]) {
                    return next;
                }
            }
            return at;
        }

        /** A way's number tells, digit by digit, which of the stages that are left comes next. */
        private int secondsOfWay(int way) {
            int seconds = 0;
            int at = 0;
            int visited = 1;
            int digits = way;
            for (int left = plan.stageCount - 1; left > 0; left--) {
                int next = stageLeft(digits % left, visited);
                digits /= left;
                seconds += changes[at][next];
                visited |= 1 << next;
                at = next;
            }
            return seconds + changes[at][0];
        }

        private int stageLeft(int place, int visited) {
            int toSkip = place;
            for (int stage = 0; stage < plan.stageCount; stage++) {
                if (!has(visited, stage)) {
                    if (toSkip == 0) {
                        return stage;
                    }
                    toSkip--;
                }
            }
            return 0;
        }
    }
}
