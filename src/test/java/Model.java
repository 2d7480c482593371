import java.util.ArrayDeque;
import java.util.ArrayList;
import java.util.Arrays;
import java.util.HashMap;
import java.util.HashSet;
import java.util.List;
import java.util.Map;
import java.util.PriorityQueue;
import java.util.Random;
import java.util.Set;
import java.util.TreeSet;

/** A land in the plainest form, with each question answered by brute force, to compare with. */
final class Model {
    static final int[] DX = {0, 1, 0, -1, 0};
    static final int[] DY = {-1, 0, 1, 0, 0};

    int wide = 6;
    int high = 6;
    int level = 0;
    int hour = 12;
    int afloat = 3;
    int[][] height;
    int[][] work;
    final List<int[]> people = new ArrayList<>();

    static Model random(Random random, int mostSide) {
        Model m = new Model();
        m.wide = 2 + random.nextInt(mostSide - 1);
        m.high = 2 + random.nextInt(mostSide - 1);
        m.height = new int[m.high][m.wide];
        m.work = new int[m.high][m.wide];
        m.level = random.nextInt(10);
        m.hour = random.nextInt(3) == 0 ? 1 + random.nextInt(60) : 1 + random.nextInt(8);
        m.afloat = random.nextInt(3) == 0 ? random.nextInt(21) : random.nextInt(4);
        int style = random.nextInt(4);
        for (int y = 0; y < m.high; y++) {
            for (int x = 0; x < m.wide; x++) {
                int any = random.nextInt(10);
                m.height[y][x] = style == 0 ? any : style == 1 ? (any < 5 ? 0 : 9) : style == 2 ? (any < 8 ? 9 : 0) : (any < 8 ? 0 : 9);
                m.work[y][x] = random.nextInt(3) == 0 ? random.nextInt(21) : 0;
            }
        }
        int many = random.nextInt(6);
        for (int p = 0; p < many; p++) {
            m.people.add(new int[] {random.nextInt(3), random.nextInt(m.wide), random.nextInt(m.high)});
        }
        return m;
    }

    String text() {
        StringBuilder b = new StringBuilder("size " + wide + " " + high + ";level " + level + ";hour " + hour + ";afloat " + afloat + ";");
        for (int y = 0; y < high; y++) {
            b.append("row").append(y);
            for (int x = 0; x < wide; x++) {
                b.append(' ').append(height[y][x]);
            }
            b.append(';');
        }
        for (int[] p : people) {
            b.append(new String[] {"man", "child", "sleeper"}[p[0]]).append(p[1]).append(' ').append(p[2]).append(';');
        }
        for (int y = 0; y < high; y++) {
            for (int x = 0; x < wide; x++) {
                String line = "work" + x + " " + y + " " + work[y][x] + ";";
                if (work[y][x] > 0 && b.length() + line.length() <= 600) {
                    b.append(line);
                } else {
                    work[y][x] = 0;
                }
            }
        }
        return b.toString();
    }

    int cells() {
        return wide * high;
    }

    boolean wet(int cell, int by) {
        return height[cell / wide][cell % wide] <= by;
    }

    int next(int cell, int direction) {
        int x = cell % wide + DX[direction];
        int y = cell / wide + DY[direction];
        return x < 0 || y < 0 || x >= wide || y >= high ? -1 : y * wide + x;
    }

    int limit(int kind) {
        return kind == 1 ? (hour < 2 ? 1 : hour / 2) : hour;
    }

    // ---- days

    /** Lives deeds; returns what could be, and leaves the state in the fields below. */
    int nowLevel;
    int[] place;
    int[] clock;
    int[] ashore;
    int[] rest;
    int[] fines;
    int[][] left;

    void begin() {
        int n = people.size();
        nowLevel = level;
        place = new int[n];
        clock = new int[n];
        ashore = new int[n];
        rest = new int[n];
        fines = new int[n];
        left = new int[high][];
        for (int y = 0; y < high; y++) {
            left[y] = work[y].clone();
        }
        for (int p = 0; p < n; p++) {
            place[p] = people.get(p)[2] * wide + people.get(p)[1];
        }
    }

    private void minute(int p) {
        clock[p]++;
        if (!wet(place[p], nowLevel)) {
            ashore[p]++;
            rest[p] = 0;
            int kind = people.get(p)[0];
            if (ashore[p] > limit(kind)) {
                fines[p] += kind == 2 ? 2 : 1;
            }
        } else {
            rest[p]++;
            if (rest[p] >= afloat) {
                ashore[p] = 0;
            }
        }
    }

    boolean deed(int sort, int a, int b) {
        if (sort == 4) {
            nowLevel = a;
            return true;
        }
        if (a >= people.size()) {
            return false;
        }
        int minutes = sort == 3 ? afloat : 1;
        if (clock[a] + minutes > 99) {
            return false;
        }
        boolean soil = !wet(place[a], nowLevel);
        if (sort == 0) {
            if (next(place[a], b) < 0) {
                return false;
            }
            place[a] = next(place[a], b);
        } else if (sort == 1) {
            if (!soil || left[place[a] / wide][place[a] % wide] == 0) {
                return false;
            }
            left[place[a] / wide][place[a] % wide]--;
        } else if (sort == 3 && soil) {
            return false;
        }
        for (int i = 0; i < minutes; i++) {
            minute(a);
        }
        return true;
    }

    int asked(int what) {
        if (what == 0) {
            return nowLevel;
        }
        if (what == 1) {
            return Arrays.stream(fines).sum();
        }
        if (what == 2) {
            return Arrays.stream(left).flatMapToInt(Arrays::stream).sum();
        }
        int n = people.size();
        if (what == 3) {
            int bits = 0;
            for (int p = 0; p < n; p++) {
                bits += wet(place[p], nowLevel) ? 0 : 1 << p;
            }
            return bits;
        }
        int[][] rows = {place, clock, ashore, rest, fines};
        for (int i = 0; i < 5; i++) {
            int p = what - 10 * (i + 1);
            if (p >= 0 && p < n) {
                return rows[i][p];
            }
        }
        return -2;
    }

    void drift(int seed, int n) {
        begin();
        long[] x = {seed};
        for (int i = 0; i < n; i++) {
            int p = draw(x, people.size());
            int number = draw(x, 8);
            if (number <= 3) {
                deed(0, p, number);
            } else if (number <= 5) {
                deed(1, p, 0);
            } else {
                deed(number == 6 ? 2 : 3, p, 0);
            }
        }
    }

    private static int draw(long[] x, int n) {
        x[0] = (x[0] * 1103515245L + 12345L) & 0xffffffffL;
        return (int) ((x[0] >> 16) % n);
    }

    // ---- errands, by all states

    /** The first minute at which one can be at each cell, -1 where never. */
    int[] errands(int kind, int from) {
        int[] first = new int[cells()];
        Arrays.fill(first, -1);
        first[from] = 0;
        Set<Integer> seen = new HashSet<>();
        List<Integer> now = new ArrayList<>();
        now.add(from * 10000);
        seen.add(from * 10000);
        for (int minute = 1; !now.isEmpty(); minute++) {
            List<Integer> then = new ArrayList<>();
            for (int state : now) {
                for (int d = 0; d < 5; d++) {
                    int to = next(state / 10000, d);
                    if (to < 0) {
                        continue;
                    }
                    int ashoreThen = state / 100 % 100;
                    int restThen = state % 100;
                    if (wet(to, level)) {
                        restThen = Math.min(restThen + 1, 30);
                        ashoreThen = restThen >= afloat ? 0 : ashoreThen;
                    } else {
                        restThen = 0;
                        ashoreThen++;
                        if (ashoreThen > limit(kind)) {
                            continue;
                        }
                    }
                    int next = to * 10000 + ashoreThen * 100 + restThen;
                    if (seen.add(next)) {
                        then.add(next);
                        if (first[to] < 0) {
                            first[to] = minute;
                        }
                    }
                }
            }
            now = then;
        }
        return first;
    }

    // ---- relays

    int bank(int cell) {
        if (wet(cell, level)) {
            return -1;
        }
        int best = -1;
        for (int c = 0; c < cells(); c++) {
            if (wet(c, level)) {
                int steps = overSoil(c, cell);
                if (steps >= 0 && (best < 0 || steps < best)) {
                    best = steps;
                }
            }
        }
        return best;
    }

    private int overSoil(int from, int to) {
        int[] steps = new int[cells()];
        Arrays.fill(steps, -1);
        steps[from] = 0;
        ArrayDeque<Integer> queue = new ArrayDeque<>(List.of(from));
        while (!queue.isEmpty()) {
            int cell = queue.remove();
            for (int d = 0; d < 4; d++) {
                int n = next(cell, d);
                if (n >= 0 && !wet(n, level) && steps[n] < 0) {
                    steps[n] = steps[cell] + 1;
                    queue.add(n);
                }
            }
        }
        return steps[to];
    }

    /** Tries minutes of work one by one. */
    int stint(int cell, int kind) {
        int bank = bank(cell);
        if (bank < 0) {
            return -1;
        }
        int minutes = 0;
        while (bank + minutes + 1 + (bank - 1) <= limit(kind)) {
            minutes++;
        }
        return minutes;
    }

    int turns(int cell, int kind) {
        int stint = stint(cell, kind);
        int todo = work[cell / wide][cell % wide];
        if (stint < 0 || stint == 0 && todo > 0) {
            return -1;
        }
        int turns = 0;
        while (todo > 0) {
            todo -= stint;
            turns++;
        }
        return turns;
    }

    int row(int kind) {
        int best = -1;
        for (int c = 0; c < cells(); c++) {
            if (!wet(c, level) && work[c / wide][c % wide] > 0 && turns(c, kind) > 0
                && (best < 0 || turns(c, kind) > turns(best, kind))) {
                best = c;
            }
        }
        return best;
    }

    // ---- water

    int strait(int a, int b) {
        for (int by = 0; by < 10; by++) {
            if (wet(a, by) && wet(b, by)) {
                for (Set<Integer> part : parts(by, true, -1)) {
                    if (part.contains(a) && part.contains(b)) {
                        return by;
                    }
                }
            }
        }
        return -1;
    }

    /** The parts of water, or soil, with one cell turned into the other. */
    List<Set<Integer>> parts(int by, boolean water, int turned) {
        List<Set<Integer>> parts = new ArrayList<>();
        Set<Integer> done = new HashSet<>();
        for (int c = 0; c < cells(); c++) {
            if (done.contains(c) || (wet(c, by) ^ c == turned) != water) {
                continue;
            }
            Set<Integer> part = new TreeSet<>();
            gather(c, by, water, turned, part);
            done.addAll(part);
            parts.add(part);
        }
        return parts;
    }

    private void gather(int cell, int by, boolean water, int turned, Set<Integer> part) {
        if (cell < 0 || (wet(cell, by) ^ cell == turned) != water || !part.add(cell)) {
            return;
        }
        for (int d = 0; d < 4; d++) {
            gather(next(cell, d), by, water, turned, part);
        }
    }

    static int largest(List<Set<Integer>> parts) {
        return parts.stream().mapToInt(Set::size).max().orElse(0);
    }

    int drought(int by, int what) {
        int sum = 0;
        switch (what) {
            case 0:
                return parts(by, false, -1).stream().mapToInt(Set::size).sum();
            case 1:
                return parts(by, true, -1).size();
            case 2:
                return largest(parts(by, true, -1));
            case 3:
                return parts(by, false, -1).size();
            case 4:
                for (int c = 0; c < cells(); c++) {
                    for (int d = 1; d < 3; d++) {
                        int n = next(c, d);
                        sum += n >= 0 && wet(c, by) != wet(n, by) ? 1 : 0;
                    }
                }
                return sum;
            case 5:
                for (int p = 0; p < people.size(); p++) {
                    sum += height[people.get(p)[2]][people.get(p)[1]] > by ? 1 << p : 0;
                }
                return sum;
            case 6:
                int best = 9;
                for (int l = 9; l >= 0; l--) {
                    best = drought(l, 1) > drought(best, 1) ? l : best;
                }
                return best;
            case 7:
                for (int c = 0; c < cells(); c++) {
                    for (int l = height[c / wide][c % wide]; l < by; l++) {
                        sum++;
                    }
                }
                return sum;
            default:
                return -1;
        }
    }

    private Set<Integer> view(int cell) {
        Set<Integer> view = new HashSet<>();
        for (int d = 0; d < 4; d++) {
            for (int n = next(cell, d); n >= 0 && !wet(n, level); n = next(n, d)) {
                view.add(n);
            }
        }
        return view;
    }

    /** How many are seen, and the watchers. */
    int[] watch(int n) {
        List<Integer> sea = new ArrayList<>();
        for (int c = 0; c < cells(); c++) {
            if (wet(c, level)) {
                sea.add(c);
            }
        }
        int[] best = {-1, -1, -1, -1};
        choose(sea, 0, new ArrayList<>(), Math.min(n, sea.size()), best);
        return best;
    }

    private void choose(List<Integer> sea, int from, List<Integer> chosen, int many, int[] best) {
        if (chosen.size() == many) {
            Set<Integer> all = new HashSet<>();
            chosen.forEach(c -> all.addAll(view(c)));
            if (all.size() > best[0]) {
                Arrays.fill(best, -1);
                best[0] = all.size();
                for (int i = 0; i < many; i++) {
                    best[i + 1] = chosen.get(i);
                }
            }
            return;
        }
        for (int i = from; i < sea.size(); i++) {
            chosen.add(sea.get(i));
            choose(sea, i + 1, chosen, many, best);
            chosen.remove(chosen.size() - 1);
        }
    }

    /** The sets from the greatest number down, so that the least of the largest stays. */
    int moored() {
        List<Integer> row = new ArrayList<>();
        for (int c = 0; c < cells() && row.size() < 14; c++) {
            boolean shore = false;
            for (int d = 0; d < 4; d++) {
                int n = next(c, d);
                shore |= n >= 0 && !wet(n, level);
            }
            if (wet(c, level) && shore) {
                row.add(c);
            }
        }
        int best = 0;
        for (int set = (1 << row.size()) - 1; set > 0; set--) {
            boolean apart = true;
            for (int i = 0; i < row.size(); i++) {
                for (int j = 0; j < row.size(); j++) {
                    boolean both = (set & 1 << i) != 0 && (set & 1 << j) != 0;
                    int dx = Math.abs(row.get(i) % wide - row.get(j) % wide);
                    int dy = Math.abs(row.get(i) / wide - row.get(j) / wide);
                    apart &= !both || dx + dy != 1;
                }
            }
            if (apart && Integer.bitCount(set) >= Integer.bitCount(best)) {
                best = set;
            }
        }
        return best;
    }

    // ---- routes: {column, row}, then {direction, minutes} each

    List<Integer> positions(int[][] route, int minutes) {
        List<Integer> moves = new ArrayList<>();
        for (int i = 1; i < route.length; i++) {
            for (int k = 0; k < route[i][1]; k++) {
                moves.add(route[i][0]);
            }
        }
        List<Integer> at = new ArrayList<>();
        int cell = route[0][1] * wide + route[0][0];
        for (int t = 0; t <= minutes; t++) {
            at.add(cell);
            int to = moves.isEmpty() ? cell : next(cell, moves.get(t % moves.size()));
            cell = to < 0 ? cell : to;
        }
        return at;
    }

    int[] meet(int[][] one, int[][] other, int n) {
        List<Integer> a = positions(one, n);
        List<Integer> b = positions(other, n);
        int[] answer = {0, 0, -1, -1, -1};
        int[] times = new int[cells()];
        for (int t = n - 1; t >= 0; t--) {
            if (a.get(t).equals(b.get(t))) {
                answer[0]++;
                answer[2] = t;
                times[a.get(t)]++;
            }
            if (t > 0 && a.get(t).equals(b.get(t - 1)) && b.get(t).equals(a.get(t - 1)) && !a.get(t).equals(b.get(t))) {
                answer[1]++;
                answer[3] = t;
            }
        }
        int most = Arrays.stream(times).max().getAsInt();
        for (int c = cells() - 1; c >= 0 && most > 0; c--) {
            answer[4] = times[c] == most ? c : answer[4];
        }
        return answer;
    }

    int[] soaked(int[][] route, int n) {
        StringBuilder b = new StringBuilder();
        positions(route, n - 1).forEach(c -> b.append(wet(c, level) ? 'w' : 's'));
        int longest = 0;
        for (String row : b.toString().split("w")) {
            longest = Math.max(longest, row.length());
        }
        return new int[] {(int) b.chars().filter(c -> c == 'w').count(), longest};
    }

    // ---- sights: {column, row}, then {seen, minute, column, row} each

    /** All walks, one by one: how often at each minute at each cell, and the ends. */
    long[][] walks(int[][] sight, int n) {
        long[][] times = new long[n + 1][cells()];
        int start = sight[0][1] * wide + sight[0][0];
        int[] way = new int[n + 1];
        way[0] = start;
        if (fits(sight, 0, start)) {
            walk(sight, n, 0, wet(start, level) ? 0 : 1, way, times);
        }
        return times;
    }

    private boolean fits(int[][] sight, int t, int cell) {
        for (int i = 1; i < sight.length; i++) {
            int[] fact = sight[i];
            if (fact[1] == t && (fact[3] * wide + fact[2] == cell) != (fact[0] == 1)) {
                return false;
            }
        }
        return true;
    }

    private void walk(int[][] sight, int n, int t, int ashoreNow, int[] way, long[][] times) {
        if (t == n) {
            for (int i = 0; i <= n; i++) {
                times[i][way[i]]++;
            }
            return;
        }
        for (int d = 0; d < 5; d++) {
            int to = next(way[t], d);
            if (to < 0 || !fits(sight, t + 1, to)) {
                continue;
            }
            int then = wet(to, level) ? 0 : ashoreNow + 1;
            if (then <= hour) {
                way[t + 1] = to;
                walk(sight, n, t + 1, then, way, times);
            }
        }
    }

    /** As walks(), of too many to go one by one: what comes to each state times what goes on from it. */
    long[][] manyWalks(int[][] sight, int n) {
        long[][] times = new long[n + 1][cells()];
        int start = sight[0][1] * wide + sight[0][0];
        Map<Integer, Long> now = new HashMap<>();
        if (fits(sight, 0, start)) {
            now.put(start * 100 + (wet(start, level) ? 0 : 1), 1L);
        }
        Map<Integer, Long> known = new HashMap<>();
        for (int t = 0; t <= n; t++) {
            Map<Integer, Long> then = new HashMap<>();
            for (Map.Entry<Integer, Long> one : now.entrySet()) {
                int state = one.getKey();
                times[t][state / 100] += one.getValue() * onward(sight, n, t, state, known);
                for (int to : nextStates(sight, t, state)) {
                    then.merge(to, one.getValue(), Long::sum);
                }
            }
            now = then;
        }
        return times;
    }

    private long onward(int[][] sight, int n, int t, int state, Map<Integer, Long> known) {
        if (t == n) {
            return 1;
        }
        Long before = known.get(t * 10000 + state);
        if (before != null) {
            return before;
        }
        long walks = 0;
        for (int to : nextStates(sight, t, state)) {
            walks += onward(sight, n, t + 1, to, known);
        }
        known.put(t * 10000 + state, walks);
        return walks;
    }

    /** By cell times 100 and how long ashore. */
    private List<Integer> nextStates(int[][] sight, int t, int state) {
        List<Integer> states = new ArrayList<>();
        for (int d = 0; d < 5; d++) {
            int to = next(state / 100, d);
            if (to >= 0 && fits(sight, t + 1, to)) {
                int then = wet(to, level) ? 0 : state % 100 + 1;
                if (then <= hour) {
                    states.add(to * 100 + then);
                }
            }
        }
        return states;
    }

    // ---- portage, digging and damming

    int[] portage(int from, int to) {
        Map<Integer, Integer> done = new HashMap<>();
        PriorityQueue<int[]> queue = new PriorityQueue<>((a, b) -> a[0] != b[0] ? a[0] - b[0] : a[1] - b[1]);
        queue.add(new int[] {0, 0, from});
        while (!queue.isEmpty()) {
            int[] top = queue.remove();
            if (top[2] == to) {
                return top;
            }
            if (done.putIfAbsent(top[2], 1) != null) {
                continue;
            }
            for (int d = 0; d < 4; d++) {
                int n = next(top[2], d);
                if (n >= 0) {
                    queue.add(new int[] {top[0] + (wet(n, level) ? 0 : 1), top[1] + 1, n});
                }
            }
        }
        return new int[] {-1, -1};
    }

    /** The cell and how much. */
    int[] turn(boolean dam) {
        int[] best = {-1, -1};
        for (int c = 0; c < cells(); c++) {
            if (wet(c, level) == dam) {
                List<Set<Integer>> parts = parts(level, true, c);
                int does = dam ? parts.size() : largest(parts);
                if (does > best[1]) {
                    best = new int[] {c, does};
                }
            }
        }
        return best;
    }

    int inland() {
        int best = -1;
        for (int c = 0; c < cells(); c++) {
            if (bank(c) > 0 && (best < 0 || bank(c) > bank(best))) {
                best = c;
            }
        }
        return best;
    }
}
