import java.util.ArrayList;
import java.util.HashMap;
import java.util.List;
import java.util.Map;
import java.util.TreeSet;

/** The document's words in their plainest form, held otherwise than the class holds them; to be compared with it. */
final class PlainModel {
    private static final class One {
        int least, most, gap, green, rest, queue, wait, longest;
        char colour = 'r';
        boolean button;
        Integer ended;
        final TreeSet<Integer> broken = new TreeSet<>();
        final Map<Integer, Integer> until = new HashMap<>();
    }

    private final List<One> phases = new ArrayList<>();
    private final List<TreeSet<Integer>> stages = new ArrayList<>();
    private final List<int[]> log = new ArrayList<>();
    private String mode = "stopped";
    private int with = -1;
    private boolean ever;
    private Integer tram;
    private int gone;
    private long delay;

    int phase(int least, int most, int gap) {
        if (least < 1 || least > 30 || most < least || most > 120 || gap < 0 || gap > 10) {
            throw new IllegalArgumentException();
        }
        if (ever || phases.size() == 8) {
            throw new IllegalStateException();
        }
        One one = new One();
        one.least = least;
        one.most = most;
        one.gap = gap;
        phases.add(one);
        return phases.size() - 1;
    }

    void meet(int one, int other, int there, int back) {
        One first = at(one);
        One second = at(other);
        if (one == other || there < 1 || there > 20 || back < 1 || back > 20) {
            throw new IllegalArgumentException();
        }
        boolean both = false;
        for (TreeSet<Integer> stage : stages) {
            both = both || stage.contains(one) && stage.contains(other);
        }
        if (ever || both) {
            throw new IllegalStateException();
        }
        first.until.put(other, there);
        second.until.put(one, back);
    }

    int stage(int bits) {
        TreeSet<Integer> set = new TreeSet<>();
        for (int k = 0; k < 32; k++) {
            if ((bits & 1 << k) != 0) {
                set.add(k);
            }
        }
        if (set.isEmpty() || set.last() >= phases.size()) {
            throw new IllegalArgumentException();
        }
        boolean clash = false;
        for (int one : set) {
            for (int other : set) {
                clash = clash || phases.get(one).until.containsKey(other);
            }
        }
        if (ever || clash || stages.size() == 6) {
            throw new IllegalStateException();
        }
        stages.add(set);
        return stages.size() - 1;
    }

    void start(int stage) {
        stageAt(stage);
        if (mode.equals("changing") || mode.equals("on")) {
            throw new IllegalStateException();
        }
        mode = "changing";
        with = stage;
        ever = true;
    }

    void stop() {
        if (mode.equals("stopped")) {
            throw new IllegalStateException();
        }
        allRed("stopped");
    }

    private void allRed(String newMode) {
        mode = newMode;
        with = -1;
        for (One one : phases) {
            if (one.colour == 'g') {
                one.ended = log.size();
            }
            one.colour = 'r';
        }
    }

    boolean press(int phase) {
        One one = at(phase);
        one.button = one.button || one.colour != 'g';
        return demanded(one);
    }

    int arrive(int phase, int vehicles) {
        One one = at(phase);
        if (vehicles < 1 || vehicles > 50) {
            throw new IllegalArgumentException();
        }
        if (one.queue + vehicles > 1000) {
            throw new IllegalStateException();
        }
        return one.queue += vehicles;
    }

    void ask(int phase) {
        at(phase);
        if (tram != null) {
            throw new IllegalStateException();
        }
        tram = phase;
    }

    int cancel() {
        if (tram == null) {
            throw new IllegalStateException();
        }
        int was = tram;
        tram = null;
        return was;
    }

    boolean breaks(int phase, int colour, boolean isSo) {
        One one = at(phase);
        if (colour < 0 || colour > 2) {
            throw new IllegalArgumentException();
        }
        return isSo ? !one.broken.add(colour) : one.broken.remove(colour);
    }

    int go(int seconds) {
        if (seconds < 1 || seconds > 1000) {
            throw new IllegalArgumentException();
        }
        if (log.size() + seconds > 5000) {
            throw new IllegalStateException();
        }
        int before = gone;
        for (int k = 0; k < seconds; k++) {
            second();
        }
        return gone - before;
    }

    private void second() {
        int now = log.size();
        if (mode.equals("on")) {
            stepOne(now);
        }
        if (mode.equals("changing")) {
            stepTwo(now);
        }
        for (One one : phases) {
            if (one.colour == 'a' && now - one.ended >= 3) {
                one.colour = 'r';
            }
        }
        if (mode.equals("on") || mode.equals("changing")) {
            stepFour();
        }
        int[] shows = new int[phases.size()];
        for (int k = 0; k < shows.length; k++) {
            One one = phases.get(k);
            int lamp = "rga".indexOf(one.colour);
            boolean dark = mode.equals("stopped") || mode.equals("flashing") || one.broken.contains(lamp);
            shows[k] = dark ? 3 : lamp;
        }
        log.add(shows);
        for (One one : phases) {
            stepSix(one);
        }
        for (One one : phases) {
            delay += one.queue;
        }
    }

    private void stepOne(int now) {
        TreeSet<Integer> on = stages.get(with);
        int wanted = -1;
        boolean byTram = false;
        if (tram != null) {
            if (on.contains(tram)) {
                wanted = with;
            } else {
                for (int k = stages.size() - 1; k >= 0; k--) {
                    wanted = stages.get(k).contains(tram) ? k : wanted;
                }
            }
            byTram = wanted != -1;
        }
        for (int k = 1; k < stages.size() && wanted == -1; k++) {
            int next = (with + k) % stages.size();
            for (int phase : stages.get(next)) {
                if (!on.contains(phase) && demanded(phases.get(phase))) {
                    wanted = next;
                }
            }
        }
        if (wanted == -1 || wanted == with) {
            return;
        }
        TreeSet<Integer> leaving = new TreeSet<>(on);
        leaving.removeAll(stages.get(wanted));
        for (int phase : leaving) {
            One one = phases.get(phase);
            if (one.green < one.least || one.rest != 0 && one.green < one.most && !byTram) {
                return;
            }
        }
        for (int phase : leaving) {
            phases.get(phase).colour = 'a';
            phases.get(phase).ended = now;
        }
        mode = "changing";
        with = wanted;
    }

    private void stepTwo(int now) {
        boolean all = true;
        for (int k : stages.get(with)) {
            One one = phases.get(k);
            if (one.colour == 'g') {
                continue;
            }
            boolean may = true;
            for (One other : phases) {
                Integer between = other.until.get(k);
                if (between != null) {
                    may = may && other.colour != 'g' && (other.ended == null || now >= other.ended + between);
                }
            }
            if (may) {
                one.colour = 'g';
                one.green = 0;
                one.rest = one.gap;
                one.wait = 0;
                one.button = false;
            }
            all = all && may;
        }
        if (all) {
            mode = "on";
        }
    }

    private void stepFour() {
        boolean danger = false;
        for (One one : phases) {
            for (int k : one.until.keySet()) {
                danger = danger || one.colour == 'r' && one.broken.contains(0) && phases.get(k).colour != 'r';
            }
        }
        if (danger) {
            allRed("flashing");
        }
    }

    private void stepSix(One one) {
        if (one.colour == 'g') {
            one.green++;
            one.rest = Math.max(0, one.rest - 1);
            if (one.queue > 0) {
                one.queue--;
                gone++;
                one.rest = one.gap;
            }
        } else if (demanded(one)) {
            one.wait++;
            one.longest = Math.max(one.longest, one.wait);
        }
    }

    private static boolean demanded(One one) {
        return one.colour != 'g' && (one.button || one.queue > 0);
    }

    int lamp(int phase, int second) {
        at(phase);
        if (second < 0 || second >= log.size()) {
            throw new IndexOutOfBoundsException();
        }
        int[] shows = log.get(second);
        return phase < shows.length ? shows[phase] : 3;
    }

    int ofPhase(int phase, int what) {
        One one = at(phase);
        boolean lit = one.colour == 'g';
        if (what < 0 || what > 6) {
            throw new IllegalArgumentException();
        }
        int[] told = {"rga".indexOf(one.colour), lit ? one.green : 0, lit ? one.rest : 0, one.queue, one.wait,
            one.longest, demanded(one) ? 1 : 0};
        return told[what];
    }

    int of(int what) {
        if (what < 0 || what > 4) {
            throw new IllegalArgumentException();
        }
        int how = List.of("stopped", "changing", "on", "flashing").indexOf(mode);
        int[] told = {how, with, log.size(), tram == null ? -1 : tram, gone};
        return told[what];
    }

    long delay() {
        return delay;
    }

    float delayEach() {
        return gone == 0 ? 0f : (float) delay / (float) gone;
    }

    int seen(int one, int other) {
        at(one);
        at(other);
        if (one == other) {
            throw new IllegalArgumentException();
        }
        int least = -1;
        for (int second = 1; second < log.size(); second++) {
            if (lamp(other, second) != 1 || lamp(other, second - 1) == 1) {
                continue;
            }
            int back = second - 1;
            while (back >= 0 && lamp(one, back) != 1) {
                back--;
            }
            if (back >= 0 && (least == -1 || second - 1 - back < least)) {
                least = second - 1 - back;
            }
        }
        return least;
    }

    int change(int from, int to) {
        TreeSet<Integer> leaving = new TreeSet<>(stageAt(from));
        TreeSet<Integer> coming = new TreeSet<>(stageAt(to));
        leaving.removeAll(stages.get(to));
        coming.removeAll(stages.get(from));
        int most = 0;
        for (int one : leaving) {
            for (int other : coming) {
                most = Math.max(most, phases.get(one).until.getOrDefault(other, 0));
            }
        }
        return most;
    }

    int round() {
        return stages.isEmpty() ? -1 : secondsOf(best());
    }

    int inRound(int place) {
        if (place < 0 || place >= stages.size()) {
            throw new IndexOutOfBoundsException();
        }
        return best().get(place);
    }

    /** Rows come in the order of their stages, so the first of several that take the least is kept. */
    private List<Integer> best() {
        List<List<Integer>> rows = new ArrayList<>();
        List<Integer> begun = new ArrayList<>();
        begun.add(0);
        lengthen(begun, rows);
        List<Integer> best = rows.get(0);
        for (List<Integer> row : rows) {
            best = secondsOf(row) < secondsOf(best) ? row : best;
        }
        return best;
    }

    private void lengthen(List<Integer> row, List<List<Integer>> rows) {
        if (row.size() == stages.size()) {
            rows.add(row);
        }
        for (int k = 0; k < stages.size(); k++) {
            if (!row.contains(k)) {
                List<Integer> longer = new ArrayList<>(row);
                longer.add(k);
                lengthen(longer, rows);
            }
        }
    }

    private int secondsOf(List<Integer> row) {
        int sum = 0;
        for (int k = 0; k < row.size(); k++) {
            int greatest = 0;
            for (int phase : stages.get(row.get(k))) {
                greatest = Math.max(greatest, phases.get(phase).least);
            }
            sum += greatest + change(row.get(k), row.get((k + 1) % row.size()));
        }
        return sum;
    }

    private One at(int phase) {
        if (phase < 0 || phase >= phases.size()) {
            throw new IndexOutOfBoundsException();
        }
        return phases.get(phase);
    }

    private TreeSet<Integer> stageAt(int stage) {
        if (stage < 0 || stage >= stages.size()) {
            throw new IndexOutOfBoundsException();
        }
        return stages.get(stage);
    }
}
