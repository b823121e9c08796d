import java.util.ArrayDeque;
import java.util.ArrayList;
import java.util.Arrays;
import java.util.Deque;
import java.util.HashMap;
import java.util.HashSet;
import java.util.List;
import java.util.Map;
import java.util.Set;
import java.util.TreeMap;
import java.util.TreeSet;

/**
 * The document once more, written as plainly and as unlike the program as can be: liveness by walking
 * ways, groups as sets, the checker by following every way with whole states. Slow, and only for tests.
 */
final class Oracle {
    static final int NONE = -1;
    private static final int MOST_STATES = 4000;

    /** Why the latest allocation failed, so that tests can look for each cause. */
    String failure = "";

    private final List<int[]> source = new ArrayList<>();
    private List<int[]> result;
    private int registers;
    private int slots;
    private int joins;
    private List<Integer> out = new ArrayList<>();
    private boolean ended;

    int put(int op, int d, int a, int b) {
        if (op < 0 || op > 7) {
            throw new IllegalArgumentException();
        }
        boolean[] value = valueColumns(op);
        boolean wrong = value[1] && (d < 0 || d > 9) || value[2] && (a < 0 || a > 9) || value[3] && (b < 0 || b > 9);
        wrong |= op == 5 && (a < 0 || a > 16) || op == 6 && (b < 0 || b > 16);
        if (wrong) {
            throw new IllegalArgumentException();
        }
        if (source.size() == 16) {
            throw new IllegalStateException();
        }
        source.add(new int[] {op, value[1] ? d : 0, a, value[3] || op == 6 ? b : 0, source.size()});
        result = null;
        return source.size();
    }

    int clear() {
        int before = source.size();
        source.clear();
        result = null;
        return before;
    }

    boolean live(int line, int value) {
        return line >= 0 && line < source.size() && value >= 0 && value <= 9 && liveBehind(source, line, value);
    }

    int lines() {
        return result == null ? NONE : result.size();
    }

    int line(int i, int what) {
        if (result == null || i < 0 || i >= result.size() || what < 0 || what > 4) {
            throw new IndexOutOfBoundsException();
        }
        return result.get(i)[what];
    }

    int slots() {
        return result == null ? NONE : slots;
    }

    int joined() {
        return result == null ? NONE : joins;
    }

    boolean spoil(int i, int what, int register) {
        if (result == null || i < 0 || i >= result.size() || what < 1 || what > 3) {
            return false;
        }
        if (!valueColumns(result.get(i)[0])[what] || register < 0 || register >= registers) {
            return false;
        }
        result.get(i)[what] = register;
        return true;
    }

    private static boolean[] valueColumns(int op) {
        switch (op) {
            case 0: case 8: case 9: return new boolean[] {false, true, false, false};
            case 1: return new boolean[] {false, true, true, false};
            case 2: case 3: case 4: return new boolean[] {false, true, true, true};
            case 6: case 7: return new boolean[] {false, false, true, false};
            default: return new boolean[4];
        }
    }

    private static boolean defines(int[] line, int value) {
        return (line[0] <= 4 || line[0] == 8) && line[1] == value;
    }

    private static List<Integer> usesOf(int[] line) {
        List<Integer> uses = new ArrayList<>();
        boolean[] value = valueColumns(line[0]);
        if (line[0] == 9) {
            uses.add(line[1]);
        }
        for (int column = 2; column <= 3; column++) {
            if (value[column]) {
                uses.add(line[column]);
            }
        }
        return uses;
    }

    private static List<Integer> following(List<int[]> code, int i) {
        List<Integer> lines = new ArrayList<>();
        int[] line = code.get(i);
        if (line[0] != 5) {
            lines.add(i + 1);
        }
        if (line[0] == 5 || line[0] == 6) {
            lines.add(line[0] == 5 ? line[2] : line[3]);
        }
        lines.removeIf(to -> to >= code.size());
        return lines;
    }

    private static boolean liveBehind(List<int[]> code, int i, int value) {
        Set<Integer> seen = new HashSet<>();
        Deque<Integer> open = new ArrayDeque<>(following(code, i));
        while (!open.isEmpty()) {
            int at = open.pop();
            if (!seen.add(at)) {
                continue;
            }
            if (usesOf(code.get(at)).contains(value)) {
                return true;
            }
            if (!defines(code.get(at), value)) {
                open.addAll(following(code, at));
            }
        }
        return false;
    }

    /** One round: the groups, in what order they went and what they got. */
    private static final class Round {
        final List<int[]> code;
        final int k;
        final List<TreeSet<Integer>> groups = new ArrayList<>();
        final Set<List<Integer>> interfering = new HashSet<>();
        final Map<TreeSet<Integer>, Integer> register = new HashMap<>();
        final List<TreeSet<Integer>> spilled = new ArrayList<>();
        int joins;

        Round(List<int[]> code, int k) {
            this.code = code;
            this.k = k;
            Set<Integer> values = new TreeSet<>();
            for (int[] line : code) {
                boolean[] value = valueColumns(line[0]);
                for (int column = 1; column <= 3; column++) {
                    if (value[column]) {
                        values.add(line[column]);
                    }
                }
            }
            for (int i = 0; i < code.size(); i++) {
                for (int x : values) {
                    for (int y : values) {
                        boolean copy = code.get(i)[0] == 1 && code.get(i)[2] == y;
                        if (x != y && defines(code.get(i), x) && !copy && liveBehind(code, i, y)) {
                            interfering.add(List.of(x, y));
                            interfering.add(List.of(y, x));
                        }
                    }
                }
            }
            for (int value : values) {
                groups.add(new TreeSet<>(Set.of(value)));
            }
            while (joinOne()) {
                joins++;
            }
            colour();
        }

        boolean neighbours(Set<Integer> one, Set<Integer> other) {
            for (int x : one) {
                for (int y : other) {
                    if (interfering.contains(List.of(x, y))) {
                        return true;
                    }
                }
            }
            return false;
        }

        int degree(List<TreeSet<Integer>> among, TreeSet<Integer> group) {
            int degree = 0;
            for (TreeSet<Integer> other : among) {
                degree += other != group && neighbours(group, other) ? 1 : 0;
            }
            return degree;
        }

        TreeSet<Integer> groupOf(int value) {
            for (TreeSet<Integer> group : groups) {
                if (group.contains(value)) {
                    return group;
                }
            }
            throw new IllegalStateException();
        }

        boolean joinOne() {
            for (int[] line : code) {
                if (line[0] != 1) {
                    continue;
                }
                TreeSet<Integer> one = groupOf(line[1]);
                TreeSet<Integer> other = groupOf(line[2]);
                if (one == other || neighbours(one, other)) {
                    continue;
                }
                TreeSet<Integer> both = new TreeSet<>(one);
                both.addAll(other);
                List<TreeSet<Integer>> then = new ArrayList<>(groups);
                then.removeIf(group -> group == one || group == other);
                then.add(both);
                int high = 0;
                for (TreeSet<Integer> group : then) {
                    high += group != both && neighbours(group, both) && degree(then, group) >= k ? 1 : 0;
                }
                if (high < k) {
                    groups.clear();
                    groups.addAll(then);
                    return true;
                }
            }
            return false;
        }

        static boolean isTemporary(TreeSet<Integer> group) {
            return group.last() >= 10;
        }

        double weight(List<TreeSet<Integer>> left, TreeSet<Integer> group) {
            int times = 0;
            for (int[] line : code) {
                boolean[] value = valueColumns(line[0]);
                for (int column = 1; column <= 3; column++) {
                    times += value[column] && group.contains(line[column]) ? 1 : 0;
                }
            }
            return (double) times / degree(left, group);
        }

        TreeSet<Integer> choose(List<TreeSet<Integer>> left) {
            for (TreeSet<Integer> group : left) {
                if (degree(left, group) < k) {
                    return group;
                }
            }
            TreeSet<Integer> best = null;
            for (TreeSet<Integer> group : left) {
                if (!isTemporary(group) && (best == null || weight(left, group) < weight(left, best))) {
                    best = group;
                }
            }
            return best == null ? left.get(0) : best;
        }

        void colour() {
            groups.sort((x, y) -> Integer.compare(x.first(), y.first()));
            List<TreeSet<Integer>> left = new ArrayList<>(groups);
            Deque<TreeSet<Integer>> taken = new ArrayDeque<>();
            while (!left.isEmpty()) {
                TreeSet<Integer> group = choose(left);
                left.remove(group);
                taken.push(group);
            }
            for (TreeSet<Integer> group : taken) {
                Set<Integer> free = new TreeSet<>();
                for (int r = 0; r < k; r++) {
                    free.add(r);
                }
                for (TreeSet<Integer> other : register.keySet()) {
                    if (neighbours(group, other)) {
                        free.remove(register.get(other));
                    }
                }
                if (free.isEmpty()) {
                    spilled.add(group);
                } else {
                    register.put(group, free.iterator().next());
                }
            }
            spilled.sort((x, y) -> Integer.compare(x.first(), y.first()));
        }
    }

    int allocate(int k) {
        if (k < 3 || k > 6) {
            throw new IllegalArgumentException();
        }
        result = null;
        failure = "";
        List<int[]> code = new ArrayList<>(source);
        int nextValue = 10;
        int nextSlot = 0;
        for (int rounds = 1; ; rounds++) {
            Round round = new Round(code, k);
            if (round.spilled.isEmpty()) {
                result = withRegisters(round);
                registers = k;
                slots = nextSlot;
                joins = round.joins;
                return rounds;
            }
            Map<Integer, Integer> slotOf = new TreeMap<>();
            for (TreeSet<Integer> group : round.spilled) {
                if (Round.isTemporary(group)) {
                    failure = "temporary";
                    return NONE;
                }
                for (int value : group) {
                    slotOf.put(value, nextSlot);
                }
                nextSlot++;
            }
            List<List<int[]>> parts = new ArrayList<>();
            for (int[] line : code) {
                List<int[]> part = new ArrayList<>();
                nextValue = rewrite(line, slotOf, nextValue, part);
                parts.add(part);
            }
            code = linked(parts);
            if (code.size() > 48 || nextValue > 60) {
                failure = "room";
                return NONE;
            }
        }
    }

    private static int rewrite(int[] line, Map<Integer, Integer> slotOf, int nextValue, List<int[]> part) {
        boolean[] value = valueColumns(line[0]);
        int[] changed = line.clone();
        Map<Integer, Integer> loaded = new HashMap<>();
        for (int column = 2; column <= 3; column++) {
            if (value[column] && slotOf.containsKey(line[column])) {
                if (!loaded.containsKey(line[column])) {
                    loaded.put(line[column], nextValue);
                    part.add(new int[] {8, nextValue, slotOf.get(line[column]), 0, NONE});
                    nextValue++;
                }
                changed[column] = loaded.get(line[column]);
            }
        }
        part.add(changed);
        if (value[1] && slotOf.containsKey(line[1])) {
            changed[1] = nextValue;
            part.add(new int[] {9, nextValue, slotOf.get(line[1]), 0, NONE});
            nextValue++;
        }
        return nextValue;
    }

    private static List<int[]> linked(List<List<int[]>> parts) {
        List<int[]> code = new ArrayList<>();
        List<Integer> starts = new ArrayList<>();
        for (List<int[]> part : parts) {
            starts.add(code.size());
            code.addAll(part);
        }
        for (int[] line : code) {
            int column = line[0] == 5 ? 2 : 3;
            if (line[0] == 5 || line[0] == 6) {
                line[column] = line[column] < starts.size() ? starts.get(line[column]) : code.size();
            }
        }
        return code;
    }

    private static List<int[]> withRegisters(Round round) {
        List<int[]> lines = new ArrayList<>();
        for (int[] line : round.code) {
            int[] changed = line.clone();
            boolean[] value = valueColumns(line[0]);
            for (int column = 1; column <= 3; column++) {
                if (value[column]) {
                    changed[column] = round.register.get(round.groupOf(line[column]));
                }
            }
            lines.add(changed);
        }
        return lines;
    }

    /** Every way is walked with its own state: 1 accepted, 0 not, NONE when there are too many states. */
    int accepts() {
        if (result == null) {
            return 0;
        }
        if (result.isEmpty()) {
            return 1;
        }
        Set<List<Integer>> seen = new HashSet<>();
        Deque<List<Integer>> open = new ArrayDeque<>();
        Integer[] first = new Integer[1 + registers + slots];
        Arrays.fill(first, 1023);
        first[0] = 0;
        open.push(Arrays.asList(first));
        while (!open.isEmpty()) {
            List<Integer> state = open.pop();
            if (!seen.add(state)) {
                continue;
            }
            if (seen.size() > MOST_STATES) {
                return NONE;
            }
            int i = state.get(0);
            if (!usesHold(state, result.get(i))) {
                return 0;
            }
            List<Integer> changed = changed(state, result.get(i));
            for (int to : following(result, i)) {
                List<Integer> next = new ArrayList<>(changed);
                next.set(0, to);
                open.push(next);
            }
        }
        return 1;
    }

    private boolean usesHold(List<Integer> state, int[] line) {
        if (line[4] == NONE) {
            return true;
        }
        boolean[] value = valueColumns(line[0]);
        for (int column = 2; column <= 3; column++) {
            if (value[column] && (state.get(1 + line[column]) >> source.get(line[4])[column] & 1) == 0) {
                return false;
            }
        }
        return true;
    }

    private List<Integer> changed(List<Integer> state, int[] line) {
        List<Integer> next = new ArrayList<>(state);
        if (line[0] == 8) {
            next.set(1 + line[1], state.get(1 + registers + line[2]));
        } else if (line[0] == 9) {
            next.set(1 + registers + line[2], state.get(1 + line[1]));
        } else if (line[0] <= 4) {
            int v = 1 << source.get(line[4])[1];
            for (int place = 1; place < next.size(); place++) {
                next.set(place, next.get(place) & ~v);
            }
            int copied = line[0] == 1 ? next.get(1 + line[2]) : 0;
            next.set(1 + line[1], copied | v);
        }
        return next;
    }

    int run(int code) {
        if (code < 0 || code > 1) {
            throw new IllegalArgumentException();
        }
        if (code == 1 && result == null) {
            throw new IllegalStateException();
        }
        List<int[]> lines = code == 0 ? source : result;
        int[] x = new int[10];
        int[] slot = new int[10];
        out = new ArrayList<>();
        int i = 0;
        int counted = 0;
        while (i < lines.size()) {
            int[] l = lines.get(i);
            if (l[0] <= 7 && ++counted > 200) {
                break;
            }
            i++;
            switch (l[0]) {
                case 0: x[l[1]] = l[2]; break;
                case 1: x[l[1]] = x[l[2]]; break;
                case 2: x[l[1]] = x[l[2]] + x[l[3]]; break;
                case 3: x[l[1]] = x[l[2]] - x[l[3]]; break;
                case 4: x[l[1]] = x[l[2]] < x[l[3]] ? 1 : 0; break;
                case 5: i = l[2]; break;
                case 6: i = x[l[2]] != 0 ? l[3] : i; break;
                case 7: out.add(x[l[2]]); break;
                case 8: x[l[1]] = slot[l[2]]; break;
                default: slot[l[2]] = x[l[1]]; break;
            }
        }
        ended = i >= lines.size();
        return out.size();
    }

    int shown(int k) {
        if (k < 0 || k >= Math.min(20, out.size())) {
            throw new IndexOutOfBoundsException();
        }
        return out.get(k);
    }

    boolean ended() {
        return ended;
    }
}
