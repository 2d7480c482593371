import java.util.Arrays;

/** A land for crossing: lands, days, routes and sights told as texts, and questions about them. */
public final class FerryLand {
    public static final int NONE = -1;

    private static final int NO_SUCH = -2;
    private static final int TAPE = 600;
    private static final int FED = 20;
    private static final int IMAGES = 3;
    /** How many there may be of each sort of text. */
    private static final int MANY = 2;

    private static final int LAND = 0;
    private static final int DAY = 1;
    private static final int ROUTE = 2;
    private static final int SIGHT = 3;
    private static final int SORTS = 4;

    private static final int SIDE = 8;
    private static final int CELLS = 64;
    private static final int PEOPLE = 5;
    private static final int DEEDS = 40;
    private static final int LINES = 10;
    private static final int TOP_LEVEL = 9;

    private static final int CHILD = 1;
    private static final int SLEEPER = 2;
    private static final int KINDS = 3;

    private static final int DIRECTIONS = 4;
    /** Staying: the direction behind the four. */
    private static final int STAY = 4;

    private static final int LAST_CLOCK = 99;
    private static final int LAST_MINUTE = 999;
    private static final int LAST_WALK = 12;
    private static final int MOST_DRAWS = 60;
    private static final int MOST_AFLOAT = 20;
    private static final int MOST_WATCHERS = 3;

    private final Told told = new Told();
    private final Told[] images = new Told[IMAGES];
    private final Reader reader = new Reader();
    private final Crew crew = new Crew();
    private final Errands errands = new Errands();
    private final Meeting meeting = new Meeting();
    private final Seeker seeker = new Seeker();
    private final Lookout lookout = new Lookout();

    public FerryLand() {
    }

    public int feed(int a, int b, int c, int d, int e) {
        if (told.length > TAPE - FED) {
            return NONE;
        }
        told.push(a);
        told.push(b);
        told.push(c);
        told.push(d);
        told.push(e);
        return told.length;
    }

    public int end(int n) {
        if (n < 0 || n > told.length) {
            return NONE;
        }
        told.length = n;
        return n;
    }

    public int text(int sort, int at) {
        int number = told.slot(sort, at);
        if (number == NO_SUCH) {
            told.length = 0;
            told.setFault(0, NONE);
            return NO_SUCH;
        }
        reader.read(told, sort);
        told.length = 0;
        told.setFault(reader.fault, reader.faultPlace);
        if (reader.fault != 0) {
            return NONE;
        }
        told.keep(sort, number, reader);
        return number;
    }

    public int fault(int what) {
        switch (what) {
            case 0:
                return told.fault;
            case 1:
                return told.faultPlace;
            default:
                return NONE;
        }
    }

    public int land(int land, int what) {
        Land one = told.landOf(land);
        if (one == null) {
            return NONE;
        }
        switch (what) {
            case 0:
                return one.wide;
            case 1:
                return one.high;
            case 2:
                return one.level;
            case 3:
                return one.hour;
            case 4:
                return one.afloat;
            case 5:
                return one.people;
            default:
                return one.person(what);
        }
    }

    public int cell(int land, int cell, boolean work) {
        Land one = told.landOf(land);
        if (one == null || !one.isCell(cell)) {
            return NONE;
        }
        return get(work ? one.works : one.heights, cell);
    }

    public int deed(int day, int k, int what) {
        Script script = told.script(DAY, day);
        if (script == null) {
            return NO_SUCH;
        }
        if (k == NONE) {
            return what == 0 ? script.lines : NO_SUCH;
        }
        return script.asked(k, what, 3);
    }

    public int stop(int land, int day) {
        Land one = told.landOf(land);
        Script script = told.script(DAY, day);
        if (one == null || script == null) {
            return NONE;
        }
        return crew.live(one, script, script.lines);
    }

    public int state(int land, int day, int n, int what) {
        Land one = told.landOf(land);
        Script script = told.script(DAY, day);
        if (one == null || script == null || n < 0 || n > script.lines) {
            return NO_SUCH;
        }
        if (crew.live(one, script, n) < n) {
            return NO_SUCH;
        }
        return crew.asked(one, what);
    }

    public int errand(int land, int kind, int from, int to) {
        Land one = told.landOf(land);
        if (one == null || !isKind(kind) || !one.isCell(from) || !one.isCell(to)) {
            return NONE;
        }
        return errands.search(one, kind, from, to, Errands.ENDLESS);
    }

    public int free(int land, int kind, int from, int n) {
        Land one = told.landOf(land);
        if (one == null || !isKind(kind) || !one.isCell(from) || n < 0 || n > LAST_CLOCK) {
            return NONE;
        }
        errands.search(one, kind, from, NONE, n);
        return Long.bitCount(errands.seen);
    }

    public int relay(int land, int cell, int kind, int what) {
        Land one = told.landOf(land);
        if (one == null || !isKind(kind)) {
            return NONE;
        }
        switch (what) {
            case 0:
                return one.bank(cell);
            case 1:
                return one.stint(cell, kind);
            case 2:
                return one.turns(cell, kind);
            case 3:
                return one.hardestWork(kind);
            default:
                return NONE;
        }
    }

    public int strait(int land, int a, int b) {
        Land one = told.landOf(land);
        if (one == null || !one.isCell(a) || !one.isCell(b)) {
            return NONE;
        }
        for (int level = 0; level <= TOP_LEVEL; level++) {
            long water = one.water(level);
            if (has(water, a) && has(one.part(bit(a), water), b)) {
                return level;
            }
        }
        return NONE;
    }

    public int drought(int land, int level, int what) {
        Land one = told.landOf(land);
        if (one == null || level < 0 || level > TOP_LEVEL) {
            return NONE;
        }
        long water = one.water(level);
        long soil = one.cells & ~water;
        switch (what) {
            case 0:
                return Long.bitCount(soil);
            case 1:
                return one.parts(water);
            case 2:
                return one.largest(water);
            case 3:
                return one.parts(soil);
            case 4:
                return one.shore(water);
            case 5:
                return one.stranded(soil);
            case 6:
                return one.dry();
            case 7:
                return one.volume(level);
            default:
                return NONE;
        }
    }

    public int watch(int land, int n, int what) {
        Land one = told.landOf(land);
        if (one == null || n < 1 || n > MOST_WATCHERS || what < 0 || what > MOST_WATCHERS) {
            return NONE;
        }
        lookout.post(one, n);
        return what == 0 ? lookout.most : get(lookout.posts, what - 1);
    }

    public int moored(int land, boolean set) {
        Land one = told.landOf(land);
        if (one == null) {
            return NONE;
        }
        int best = lookout.moor(one);
        return set ? best : Integer.bitCount(best);
    }

    public int route(int route, int k, int what) {
        Script script = told.script(ROUTE, route);
        if (script == null) {
            return NO_SUCH;
        }
        return k == NONE ? script.head(what) : script.asked(k, what, 2);
    }

    public int at(int land, int route, int minute) {
        Land one = told.landOf(land);
        Script script = told.script(ROUTE, route);
        if (one == null || script == null || !one.isStart(script) || minute < 0 || minute > LAST_MINUTE) {
            return NONE;
        }
        return meeting.cellAt(one, script, minute);
    }

    public int meet(int land, int one, int other, int n, int what) {
        Land where = told.landOf(land);
        Script first = told.script(ROUTE, one);
        Script second = told.script(ROUTE, other);
        if (where == null || first == null || second == null || n < 1 || n > LAST_MINUTE) {
            return NO_SUCH;
        }
        if (!where.isStart(first) || !where.isStart(second)) {
            return NO_SUCH;
        }
        meeting.together(where, first, second, n);
        switch (what) {
            case 0:
                return meeting.meets;
            case 1:
                return meeting.passes;
            case 2:
                return meeting.firstMeet;
            case 3:
                return meeting.firstPass;
            case 4:
                return meeting.place();
            default:
                return NO_SUCH;
        }
    }

    public int soaked(int land, int route, int n, boolean soil) {
        Land one = told.landOf(land);
        Script script = told.script(ROUTE, route);
        if (one == null || script == null || !one.isStart(script) || n < 1 || n > LAST_MINUTE) {
            return NONE;
        }
        meeting.alone(one, script, n);
        return soil ? meeting.longestDry : meeting.wet;
    }

    public int sight(int sight, int k, int what) {
        Script script = told.script(SIGHT, sight);
        if (script == null) {
            return NO_SUCH;
        }
        return k == NONE ? script.head(what) : script.asked(k, what, 4);
    }

    public long walks(int land, int sight, int n, int cell) {
        Land one = told.landOf(land);
        Script script = told.script(SIGHT, sight);
        if (one == null || script == null || !one.hasAll(script) || n < 0 || n > LAST_WALK) {
            return NONE;
        }
        if (cell != NONE && !one.isCell(cell)) {
            return NONE;
        }
        seeker.seek(one, script, n, NONE);
        return cell == NONE ? seeker.total() : seeker.ending(cell);
    }

    public int sure(int land, int sight, int n, int minute) {
        Land one = told.landOf(land);
        Script script = told.script(SIGHT, sight);
        if (one == null || script == null || !one.hasAll(script) || n < 0 || n > LAST_WALK) {
            return NONE;
        }
        if (minute != NONE && (minute < 0 || minute > n)) {
            return NONE;
        }
        seeker.seek(one, script, n, minute);
        return minute == NONE ? seeker.question(one) : seeker.onlyPlace();
    }

    public int drawn(int land, int seed, int n, int what) {
        Land one = told.landOf(land);
        if (one == null || one.people <= 0 || n < 0 || n > MOST_DRAWS) {
            return NO_SUCH;
        }
        crew.drift(one, seed, n);
        return crew.asked(one, what);
    }

    public int portage(int land, int from, int to, boolean steps) {
        Land one = told.landOf(land);
        if (one == null || !one.isCell(from) || !one.isCell(to)) {
            return NONE;
        }
        return lookout.carry(one, from, to, steps);
    }

    public int dig(int land, boolean size) {
        Land one = told.landOf(land);
        return one == null ? NONE : one.turned(false, size);
    }

    public int dam(int land, boolean pools) {
        Land one = told.landOf(land);
        return one == null ? NONE : one.turned(true, pools);
    }

    public int inland(int land) {
        Land one = told.landOf(land);
        return one == null ? NONE : one.farthest();
    }

    public int count(int sort) {
        return sort >= 0 && sort < SORTS ? get(told.counts, sort) : NO_SUCH;
    }

    public boolean image(int k) {
        if (k < 0 || k >= images.length) {
            return false;
        }
        if (images[k] == null) {
            images[k] = new Told();
        }
        images[k].copyFrom(told);
        return true;
    }

    public boolean again(int k) {
        if (k < 0 || k >= images.length || images[k] == null) {
            return false;
        }
        told.copyFrom(images[k]);
        return true;
    }

    private static boolean isKind(int kind) {
        return kind >= 0 && kind < KINDS;
    }

    private static int get(int[] row, int at) {
        return at >= 0 && at < row.length ? row[at] : 0;
    }

    private static void put(int[] row, int at, int value) {
        if (at >= 0 && at < row.length) {
            row[at] = value;
        }
    }

    private static long get(long[] row, int at) {
        return at >= 0 && at < row.length ? row[at] : 0L;
    }

    private static void put(long[] row, int at, long value) {
        if (at >= 0 && at < row.length) {
            row[at] = value;
        }
    }

    private static void copy(int[] from, int[] to) {
        for (int i = 0; i < from.length && i < to.length; i++) {
            to[i] = from[i];
        }
    }

    private static int sum(int[] row, int most) {
        int all = 0;
        for (int i = 0; i < most && i < row.length; i++) {
            all += row[i];
        }
        return all;
    }

    private static long bit(int cell) {
        return cell >= 0 && cell < CELLS ? 1L << cell : 0L;
    }

    private static boolean has(long set, int cell) {
        return (set & bit(cell)) != 0L;
    }

    private static int lowest(long set) {
        return set == 0L ? NONE : Long.bitCount((set & -set) - 1L);
    }

    /** All that is told: what an image keeps. */
    private static final class Told {
        final byte[] tape = new byte[TAPE];
        int length = 0;
        int fault = 0;
        int faultPlace = NONE;
        final int[] counts = new int[SORTS];
        final Land[] lands = new Land[MANY];
        /** By sort and number; there are none of the sort LAND. */
        final Script[] scripts = new Script[SORTS * MANY];

        Told() {
            for (int i = 0; i < lands.length; i++) {
                lands[i] = new Land();
            }
            for (int i = DAY * MANY; i < scripts.length; i++) {
                scripts[i] = new Script(i < ROUTE * MANY ? DEEDS : LINES);
            }
        }

        void push(int number) {
            for (int shift = 24; shift >= 0; shift -= 8) {
                if (length >= 0 && length < tape.length) {
                    tape[length] = (byte) (number >>> shift);
                    length++;
                }
            }
        }

        /** The byte at a place; behind the tape's end no byte of any token. */
        int sign(int place) {
            return place >= 0 && place < length && place < tape.length ? tape[place] & 255 : 0;
        }

        void setFault(int number, int place) {
            fault = number;
            faultPlace = place;
        }

        /** The number that a text of a sort gets: NO_SUCH if it can't be taken. */
        int slot(int sort, int at) {
            if (sort < 0 || sort >= SORTS) {
                return NO_SUCH;
            }
            int many = get(counts, sort);
            if (at == NONE) {
                return many < MANY ? many : NO_SUCH;
            }
            return at >= 0 && at < many ? at : NO_SUCH;
        }

        void keep(int sort, int number, Reader reader) {
            Land land = sort == LAND && number >= 0 && number < lands.length ? lands[number] : null;
            if (land != null) {
                land.copyFrom(reader.land);
            }
            int place = sort * MANY + number;
            Script script = place >= 0 && place < scripts.length ? scripts[place] : null;
            if (script != null) {
                script.copyFrom(reader.script);
            }
            put(counts, sort, Math.max(get(counts, sort), number + 1));
        }

        Land landOf(int number) {
            boolean there = number >= 0 && number < get(counts, LAND) && number < lands.length;
            return there ? lands[number] : null;
        }

        Script script(int sort, int number) {
            if (number < 0 || number >= get(counts, sort)) {
                return null;
            }
            int place = sort * MANY + number;
            return place >= 0 && place < scripts.length ? scripts[place] : null;
        }

        void copyFrom(Told other) {
            length = other.length;
            for (int i = 0; i < tape.length && i < other.tape.length; i++) {
                tape[i] = other.tape[i];
            }
            setFault(other.fault, other.faultPlace);
            copy(other.counts, counts);
            for (int i = 0; i < lands.length && i < other.lands.length; i++) {
                if (lands[i] != null && other.lands[i] != null) {
                    lands[i].copyFrom(other.lands[i]);
                }
            }
            for (int i = 0; i < scripts.length && i < other.scripts.length; i++) {
                if (scripts[i] != null && other.scripts[i] != null) {
                    scripts[i].copyFrom(other.scripts[i]);
                }
            }
        }
    }

    /** A day, a route or a sight: where it begins, and its lines of up to four numbers each. */
    private static final class Script {
        private static final int WIDTH = 4;

        final int[] values;
        int column = 0;
        int row = 0;
        int lines = 0;

        Script(int most) {
            values = new int[Math.max(most, 0) * WIDTH];
        }

        void clear() {
            column = 0;
            row = 0;
            lines = 0;
        }

        void add(int a, int b, int c, int d) {
            int first = lines * WIDTH;
            put(values, first, a);
            put(values, first + 1, b);
            put(values, first + 2, c);
            put(values, first + 3, d);
            lines++;
        }

        int value(int line, int which) {
            boolean there = line >= 0 && line < lines && which >= 0 && which < WIDTH;
            return there ? get(values, line * WIDTH + which) : 0;
        }

        int asked(int line, int which, int width) {
            boolean there = line >= 0 && line < lines && which >= 0 && which < width;
            return there ? value(line, which) : NO_SUCH;
        }

        int head(int what) {
            switch (what) {
                case 0:
                    return column;
                case 1:
                    return row;
                case 2:
                    return lines;
                default:
                    return NO_SUCH;
            }
        }

        void copyFrom(Script other) {
            column = other.column;
            row = other.row;
            lines = other.lines;
            copy(other.values, values);
        }
    }

    /** A land; sets of its cells are the bits of a long, by the cells' numbers. */
    private static final class Land {
        int wide = 6;
        int high = 6;
        int level = 0;
        int hour = 12;
        int afloat = 3;
        int people = 0;
        final int[] heights = new int[CELLS];
        final int[] works = new int[CELLS];
        final int[] kinds = new int[PEOPLE];
        final int[] places = new int[PEOPLE];
        long cells = 0L;
        long leftEdge = 0L;
        long rightEdge = 0L;

        void clear() {
            wide = 6;
            high = 6;
            level = 0;
            hour = 12;
            afloat = 3;
            people = 0;
            Arrays.fill(heights, 0);
            Arrays.fill(works, 0);
        }

        void addPerson(int kind, int place) {
            put(kinds, people, kind);
            put(places, people, place);
            people++;
        }

        /** While a text is read its size may still change, so that rows lie SIDE apart until its end. */
        void settle() {
            leftEdge = 0L;
            rightEdge = 0L;
            for (int row = 0; row < high; row++) {
                for (int column = 0; column < wide; column++) {
                    put(heights, row * wide + column, get(heights, row * SIDE + column));
                    put(works, row * wide + column, get(works, row * SIDE + column));
                }
                leftEdge |= bit(row * wide);
                rightEdge |= bit(row * wide + wide - 1);
            }
            cells = 0L;
            for (int cell = 0; cell < wide * high; cell++) {
                cells |= bit(cell);
            }
            for (int p = 0; p < people; p++) {
                int place = get(places, p);
                put(places, p, (place >> 3) * wide + (place & 7));
            }
        }

        void copyFrom(Land other) {
            wide = other.wide;
            high = other.high;
            level = other.level;
            hour = other.hour;
            afloat = other.afloat;
            people = other.people;
            copy(other.heights, heights);
            copy(other.works, works);
            copy(other.kinds, kinds);
            copy(other.places, places);
            cells = other.cells;
            leftEdge = other.leftEdge;
            rightEdge = other.rightEdge;
        }

        boolean isCell(int cell) {
            return has(cells, cell);
        }

        int cellOf(int column, int row) {
            boolean there = column >= 0 && column < wide && row >= 0 && row < high;
            return there ? row * wide + column : NONE;
        }

        boolean isStart(Script script) {
            return cellOf(script.column, script.row) != NONE;
        }

        /** All that a sight tells of is there: the facts of later minutes, too. */
        boolean hasAll(Script sight) {
            for (int k = 0; k < sight.lines; k++) {
                if (cellOf(sight.value(k, 2), sight.value(k, 3)) == NONE) {
                    return false;
                }
            }
            return isStart(sight);
        }

        int person(int what) {
            if (what >= 10 && what < 10 + people) {
                return get(kinds, what - 10);
            }
            if (what >= 20 && what < 20 + people) {
                return get(places, what - 20);
            }
            return NONE;
        }

        int limit(int kind) {
            return kind == CHILD ? Math.max(hour / 2, 1) : hour;
        }

        long water(int by) {
            long water = 0L;
            for (int cell = 0; cell < wide * high; cell++) {
                if (get(heights, cell) <= by) {
                    water |= bit(cell);
                }
            }
            return water;
        }

        /** The cell beside one; NONE over the edge; for STAY the cell itself. */
        int next(int cell, int direction) {
            if (direction == STAY) {
                return cell;
            }
            return lowest(shift(bit(cell), direction));
        }

        long shift(long set, int direction) {
            switch (direction) {
                case 0:
                    return set >>> wide;
                case 1:
                    return (set & ~rightEdge) << 1;
                case 2:
                    return (set << wide) & cells;
                case 3:
                    return (set & ~leftEdge) >>> 1;
                default:
                    return 0L;
            }
        }

        long beside(long set) {
            return shift(set, 0) | shift(set, 1) | shift(set, 2) | shift(set, 3);
        }

        /** What hangs together with a seed within a set. */
        long part(long seed, long within) {
            long part = seed & within;
            for (int i = 0; i < CELLS; i++) {
                long wider = (part | beside(part)) & within;
                if (wider == part) {
                    return part;
                }
                part = wider;
            }
            return part;
        }

        int parts(long set) {
            long left = set;
            int parts = 0;
            for (int i = 0; i < CELLS && left != 0L; i++) {
                left &= ~part(left & -left, left);
                parts++;
            }
            return parts;
        }

        int largest(long set) {
            long left = set;
            int largest = 0;
            for (int i = 0; i < CELLS && left != 0L; i++) {
                long part = part(left & -left, left);
                largest = Math.max(largest, Long.bitCount(part));
                left &= ~part;
            }
            return largest;
        }

        int dry() {
            int dry = 0;
            int most = 0;
            for (int by = 0; by <= TOP_LEVEL; by++) {
                int pools = parts(water(by));
                if (pools >= most) {
                    most = pools;
                    dry = by;
                }
            }
            return dry;
        }

        int shore(long water) {
            long soil = cells & ~water;
            int couples = 0;
            for (int direction = 0; direction < DIRECTIONS; direction++) {
                couples += Long.bitCount(shift(water, direction) & soil);
            }
            return couples;
        }

        int stranded(long soil) {
            int bits = 0;
            for (int p = 0; p < people; p++) {
                if (has(soil, get(places, p))) {
                    bits |= 1 << p;
                }
            }
            return bits;
        }

        int volume(int by) {
            int volume = 0;
            for (int cell = 0; cell < wide * high; cell++) {
                volume += Math.max(by - get(heights, cell), 0);
            }
            return volume;
        }

        /** The nearest water's way is over soil alone: else there would be a nearer one on it. */
        int bank(int cell) {
            long reached = water(level);
            if (!isCell(cell) || has(reached, cell) || reached == 0L) {
                return NONE;
            }
            for (int steps = 1; steps <= CELLS; steps++) {
                reached |= beside(reached);
                if (has(reached, cell)) {
                    return steps;
                }
            }
            return NONE;
        }

        int farthest() {
            long reached = water(level);
            if (reached == 0L) {
                return NONE;
            }
            int farthest = NONE;
            for (int steps = 1; steps <= CELLS && reached != cells; steps++) {
                long come = beside(reached) & ~reached;
                farthest = lowest(come);
                reached |= come;
            }
            return farthest;
        }

        /** Of the steps there and back all but the last one end on soil. */
        int stint(int cell, int kind) {
            int bank = bank(cell);
            return bank == NONE ? NONE : Math.max(limit(kind) - (2 * bank - 1), 0);
        }

        int turns(int cell, int kind) {
            int stint = stint(cell, kind);
            if (stint == NONE) {
                return NONE;
            }
            int work = get(works, cell);
            if (stint <= 0) {
                return work == 0 ? 0 : NONE;
            }
            return (work + stint - 1) / stint;
        }

        int hardestWork(int kind) {
            int hardest = NONE;
            int most = 0;
            for (int cell = 0; cell < wide * high; cell++) {
                int turns = turns(cell, kind);
                if (turns > most) {
                    most = turns;
                    hardest = cell;
                }
            }
            return hardest;
        }

        /** The cell to dam, or to dig, that does most; or (much) how much it does. */
        int turned(boolean dam, boolean much) {
            long water = water(level);
            long choice = dam ? water : cells & ~water;
            int best = NONE;
            int most = NONE;
            for (int cell = 0; cell < wide * high; cell++) {
                if (has(choice, cell)) {
                    long then = water ^ bit(cell);
                    int does = dam ? parts(then) : largest(then);
                    if (does > most) {
                        most = does;
                        best = cell;
                    }
                }
            }
            return much ? most : best;
        }
    }

    /** Reads a text from the tape into a draft, or finds its fault. */
    private static final class Reader {
        /** All words of lines, those of one sort in a row; each ends with a blank. */
        private static final String WORDS =
            "size row level hour afloat work man child sleeper go work wait moor level from leg from seen not ";
        private static final int ROW = 1;
        private static final int LAND_WORK = 5;
        private static final int FIRST_KIND = 6;
        private static final int FIRST_DEED = 9;
        private static final int GO = 9;
        private static final int ROUTE_FROM = 14;
        private static final int LEG = 15;
        private static final int SIGHT_FROM = 16;
        private static final int SEEN = 17;
        /** The first word of each sort, and the one behind the last. */
        private static final int[] FIRST = {0, 9, 14, 16, 19};
        /** How many numbers a word has (a row: besides its heights). */
        private static final int[] NUMBERS = {2, 1, 1, 1, 1, 3, 2, 2, 2, 2, 1, 1, 1, 1, 2, 2, 2, 3, 3};
        /** The least and the greatest of each number, three of each word. */
        private static final int[] LEAST = {
            2, 2, 0, 0, 0, 0, 0, 0, 0, 1, 0, 0, 0, 0, 0, 0, 0, 0, 0, 0, 0, 0, 0, 0, 0, 0, 0,
            0, 0, 0, 0, 0, 0, 0, 0, 0, 0, 0, 0, 0, 0, 0,
            0, 0, 0, 0, 1, 0, 0, 0, 0, 0, 0, 0, 0, 0, 0};
        private static final int[] MOST = {
            8, 8, 0, 7, 0, 0, 9, 0, 0, 60, 0, 0, 20, 0, 0, 7, 7, 20, 7, 7, 0, 7, 7, 0, 7, 7, 0,
            4, 3, 0, 4, 0, 0, 4, 0, 0, 4, 0, 0, 9, 0, 0,
            7, 7, 0, 4, 20, 0, 7, 7, 0, 12, 7, 7, 12, 7, 7};

        private static final int AT_END = 0;
        private static final int WORD = 1;
        private static final int NUMBER = 2;
        private static final int SEMICOLON = 3;
        private static final int WRONG = 4;

        final Land land = new Land();
        final Script script = new Script(DEEDS);
        int fault = 0;
        int faultPlace = NONE;
        private final int[] numbers = new int[3];
        private int place = 0;
        private int token = 0;
        private int kind = AT_END;
        private int number = 0;
        private int farColumn = 0;
        private int farRow = 0;

        void read(Told told, int sort) {
            fault = 0;
            faultPlace = NONE;
            place = 0;
            farColumn = 0;
            farRow = 0;
            land.clear();
            script.clear();
            readLines(told, sort);
            if (fault != 0 || sort != LAND) {
                return;
            }
            if (farColumn >= land.wide || farRow >= land.high) {
                note(4, told.length);
                return;
            }
            land.settle();
        }

        private void readLines(Told told, int sort) {
            advance(told);
            for (int line = 0; line <= TAPE && kind != AT_END; line++) {
                int word = kind == WORD ? wordNumber(told, sort) : NONE;
                if (word == NONE) {
                    halt();
                    return;
                }
                if (!readLine(told, sort, word)) {
                    halt();
                    return;
                }
            }
        }

        /** False: no text goes on with the token that is there now. */
        private boolean readLine(Told told, int sort, int word) {
            if (isFurther(word) && isFull(sort)) {
                note(3, token);
            }
            advance(told);
            for (int i = 0; i < get(NUMBERS, word); i++) {
                if (kind != NUMBER) {
                    return false;
                }
                if (number < get(LEAST, word * 3 + i) || number > get(MOST, word * 3 + i)) {
                    note(2, token);
                }
                put(numbers, i, number);
                advance(told);
            }
            if (word == ROW) {
                readHeights(told);
            }
            if (kind != SEMICOLON) {
                return false;
            }
            advance(told);
            // Behind a fault nothing of the draft is used, and its numbers may be out of their bounds.
            if (fault == 0) {
                take(sort, word);
            }
            return true;
        }

        private void readHeights(Told told) {
            int row = get(numbers, 0);
            for (int column = 0; column < SIDE && fault == 0; column++) {
                put(land.heights, row * SIDE + column, 0);
            }
            for (int column = 0; column <= TAPE && kind == NUMBER; column++) {
                if (number > TOP_LEVEL) {
                    note(2, token);
                }
                if (column >= SIDE) {
                    note(3, token);
                }
                if (fault == 0) {
                    put(land.heights, row * SIDE + column, number);
                    tellOf(column, row);
                }
                advance(told);
            }
        }

        private void take(int sort, int word) {
            int a = get(numbers, 0);
            int b = get(numbers, 1);
            int c = get(numbers, 2);
            switch (sort) {
                case LAND:
                    takeLand(word, a, b, c);
                    break;
                case DAY:
                    script.add(word - FIRST_DEED, a, word == GO ? b : NONE, 0);
                    break;
                default:
                    takeWay(word, a, b, c);
                    break;
            }
        }

        private void takeLand(int word, int a, int b, int c) {
            switch (word) {
                case 0:
                    land.wide = a;
                    land.high = b;
                    break;
                case ROW:
                    tellOf(0, a);
                    break;
                case 2:
                    land.level = a;
                    break;
                case 3:
                    land.hour = a;
                    break;
                case 4:
                    land.afloat = a;
                    break;
                case LAND_WORK:
                    put(land.works, b * SIDE + a, c);
                    tellOf(a, b);
                    break;
                default:
                    land.addPerson(word - FIRST_KIND, b * SIDE + a);
                    tellOf(a, b);
                    break;
            }
        }

        private void takeWay(int word, int a, int b, int c) {
            switch (word) {
                case ROUTE_FROM:
                case SIGHT_FROM:
                    script.column = a;
                    script.row = b;
                    break;
                case LEG:
                    script.add(a, b, 0, 0);
                    break;
                default:
                    script.add(word == SEEN ? 1 : 0, a, b, c);
                    break;
            }
        }

        private void tellOf(int column, int row) {
            farColumn = Math.max(farColumn, column);
            farRow = Math.max(farRow, row);
        }

        /** Of these words each line tells a further one. */
        private static boolean isFurther(int word) {
            return word >= FIRST_KIND && word != ROUTE_FROM && word != SIGHT_FROM;
        }

        private boolean isFull(int sort) {
            switch (sort) {
                case LAND:
                    return land.people >= PEOPLE;
                case DAY:
                    return script.lines >= DEEDS;
                default:
                    return script.lines >= LINES;
            }
        }

        /** Keeps the first by place: notes come in the places' order, of one place the least first. */
        private void note(int which, int where) {
            if (fault == 0) {
                fault = which;
                faultPlace = where;
            }
        }

        /** A fault 1 goes before all others, wherever these are. */
        private void halt() {
            fault = 1;
            faultPlace = token;
        }

        private void advance(Told told) {
            for (int i = 0; i < TAPE && isBlank(told.sign(place)); i++) {
                place++;
            }
            token = place;
            if (place >= told.length) {
                kind = AT_END;
                return;
            }
            int sign = told.sign(place);
            if (isLetter(sign)) {
                readWord(told);
            } else if (isDigit(sign)) {
                readNumber(told);
            } else {
                kind = sign == ';' ? SEMICOLON : WRONG;
                place++;
            }
        }

        private void readWord(Told told) {
            kind = WORD;
            for (int i = 0; i < TAPE && isLetter(told.sign(place)); i++) {
                place++;
            }
        }

        private void readNumber(Told told) {
            number = 0;
            for (int i = 0; i < TAPE && isDigit(told.sign(place)); i++) {
                // A longer row is wrong whatever it is; this keeps its number small.
                number = (number * 10 + told.sign(place) - '0') % 1000;
                place++;
            }
            kind = place - token <= 2 ? NUMBER : WRONG;
        }

        /** The number of the word from token to place among those of a sort. */
        private int wordNumber(Told told, int sort) {
            int word = 0;
            int same = token;
            boolean alike = true;
            for (int i = 0; i < WORDS.length(); i++) {
                char sign = WORDS.charAt(i);
                if (sign != ' ') {
                    alike = alike && same < place && told.sign(same) == sign;
                    same++;
                    continue;
                }
                boolean ofSort = word >= get(FIRST, sort) && word < get(FIRST, sort + 1);
                if (alike && same == place && ofSort) {
                    return word;
                }
                word++;
                same = token;
                alike = true;
            }
            return NONE;
        }

        private static boolean isBlank(int sign) {
            return sign == 10 || sign == 32;
        }

        private static boolean isLetter(int sign) {
            return sign >= 'a' && sign <= 'z';
        }

        private static boolean isDigit(int sign) {
            return sign >= '0' && sign <= '9';
        }
    }

    /** The people of a land as a day goes on. */
    private static final class Crew {
        private static final int GO = 0;
        private static final int WORK = 1;
        private static final int WAIT = 2;
        private static final int MOOR = 3;
        private static final int LEVEL = 4;

        private final int[] works = new int[CELLS];
        private final int[] places = new int[PEOPLE];
        private final int[] clocks = new int[PEOPLE];
        private final int[] ashores = new int[PEOPLE];
        private final int[] rests = new int[PEOPLE];
        private final int[] fines = new int[PEOPLE];
        private int level = 0;
        private long water = 0L;
        private int drawing = 0;

        /** Lives up to n deeds of a day: how many of them could be. */
        int live(Land land, Script day, int n) {
            begin(land);
            for (int k = 0; k < n; k++) {
                if (!perform(land, day.value(k, 0), day.value(k, 1), day.value(k, 2))) {
                    return k;
                }
            }
            return n;
        }

        void drift(Land land, int seed, int n) {
            begin(land);
            drawing = seed;
            for (int i = 0; i < n; i++) {
                int person = draw(land.people);
                int number = draw(8);
                if (number < DIRECTIONS) {
                    perform(land, GO, person, number);
                } else {
                    perform(land, number < 6 ? WORK : number == 6 ? WAIT : MOOR, person, NONE);
                }
            }
        }

        private int draw(int below) {
            drawing = drawing * 1103515245 + 12345;
            return below > 0 ? (drawing >>> 16) % below : 0;
        }

        private void begin(Land land) {
            copy(land.works, works);
            copy(land.places, places);
            Arrays.fill(clocks, 0);
            Arrays.fill(ashores, 0);
            Arrays.fill(rests, 0);
            Arrays.fill(fines, 0);
            setLevel(land, land.level);
        }

        private void setLevel(Land land, int to) {
            level = to;
            water = land.water(to);
        }

        /** Does a deed; false, and nothing is done, if it can't be. */
        private boolean perform(Land land, int sort, int first, int second) {
            if (sort == LEVEL) {
                setLevel(land, first);
                return true;
            }
            if (first < 0 || first >= land.people) {
                return false;
            }
            int minutes = sort == MOOR ? land.afloat : 1;
            if (get(clocks, first) + minutes > LAST_CLOCK) {
                return false;
            }
            switch (sort) {
                case GO:
                    return go(land, first, second);
                case WORK:
                    return toil(land, first);
                case WAIT:
                    pass(land, first);
                    return true;
                case MOOR:
                    return moor(land, first);
                default:
                    return false;
            }
        }

        private boolean go(Land land, int person, int direction) {
            int to = land.next(get(places, person), direction);
            if (to == NONE) {
                return false;
            }
            put(places, person, to);
            pass(land, person);
            return true;
        }

        private boolean toil(Land land, int person) {
            int place = get(places, person);
            if (has(water, place) || get(works, place) <= 0) {
                return false;
            }
            put(works, place, get(works, place) - 1);
            pass(land, person);
            return true;
        }

        private boolean moor(Land land, int person) {
            if (!has(water, get(places, person))) {
                return false;
            }
            for (int i = 0; i < land.afloat; i++) {
                pass(land, person);
            }
            return true;
        }

        /** A minute of a person ends where he is. */
        private void pass(Land land, int person) {
            put(clocks, person, get(clocks, person) + 1);
            if (has(water, get(places, person))) {
                int rest = get(rests, person) + 1;
                put(rests, person, rest);
                if (rest >= land.afloat) {
                    put(ashores, person, 0);
                }
                return;
            }
            int kind = get(land.kinds, person);
            int ashore = get(ashores, person) + 1;
            put(rests, person, 0);
            put(ashores, person, ashore);
            if (ashore > land.limit(kind)) {
                put(fines, person, get(fines, person) + (kind == SLEEPER ? 2 : 1));
            }
        }

        int asked(Land land, int what) {
            switch (what) {
                case 0:
                    return level;
                case 1:
                    return sum(fines, land.people);
                case 2:
                    return sum(works, land.wide * land.high);
                case 3:
                    return onSoil(land);
                default:
                    return ofPerson(land, what);
            }
        }

        private int onSoil(Land land) {
            int bits = 0;
            for (int p = 0; p < land.people; p++) {
                if (!has(water, get(places, p))) {
                    bits |= 1 << p;
                }
            }
            return bits;
        }

        private int ofPerson(Land land, int what) {
            if (what < 10 || what > 59 || what % 10 >= land.people) {
                return NO_SUCH;
            }
            int person = what % 10;
            switch (what / 10) {
                case 1:
                    return get(places, person);
                case 2:
                    return get(clocks, person);
                case 3:
                    return get(ashores, person);
                case 4:
                    return get(rests, person);
                default:
                    return get(fines, person);
            }
        }
    }

    /** Finds the ways on which nobody is fined, minute by minute. */
    private static final class Errands {
        /** There are fewer states than this many, so that no errand takes so long. */
        static final int ENDLESS = 1000000;
        private static final int NEVER = 99;
        private static final int RESTS = MOST_AFLOAT + 1;

        // By cell and rest, the least ashore: who is ashore less long can do all that another can.
        private final int[] best = new int[CELLS * RESTS];
        private int[] now = new int[CELLS * RESTS];
        private int[] then = new int[CELLS * RESTS];
        long seen = 0L;
        private long active = 0L;
        private long coming = 0L;
        private long water = 0L;
        private int limit = 0;
        private int afloat = 0;
        private int enough = 0;

        /** The minutes until one is at a cell, NONE if one can't be there in so many; seen: where one can be. */
        int search(Land land, int kind, int from, int to, int most) {
            prepare(land, kind, from);
            if (from == to) {
                return 0;
            }
            for (int minute = 1; minute <= most && active != 0L; minute++) {
                spread(land);
                if (has(seen, to)) {
                    return minute;
                }
            }
            return NONE;
        }

        private void prepare(Land land, int kind, int from) {
            Arrays.fill(best, NEVER);
            Arrays.fill(now, NEVER);
            Arrays.fill(then, NEVER);
            water = land.water(land.level);
            limit = land.limit(kind);
            afloat = land.afloat;
            enough = Math.max(afloat, 1);
            put(best, from * RESTS, 0);
            put(now, from * RESTS, 0);
            seen = bit(from);
            active = seen;
        }

        private void spread(Land land) {
            coming = 0L;
            for (int cell = 0; cell < CELLS; cell++) {
                if (has(active, cell)) {
                    spreadFrom(land, cell);
                }
            }
            int[] empty = now;
            now = then;
            then = empty;
            active = coming;
            seen |= coming;
        }

        private void spreadFrom(Land land, int cell) {
            for (int rest = 0; rest <= enough; rest++) {
                int ashore = get(now, cell * RESTS + rest);
                put(now, cell * RESTS + rest, NEVER);
                for (int direction = 0; direction <= STAY && ashore != NEVER; direction++) {
                    int to = land.next(cell, direction);
                    if (to != NONE) {
                        arrive(to, rest, ashore);
                    }
                }
            }
        }

        private void arrive(int cell, int restBefore, int ashoreBefore) {
            int rest = 0;
            int ashore = ashoreBefore + 1;
            if (has(water, cell)) {
                rest = Math.min(restBefore + 1, enough);
                ashore = rest >= afloat ? 0 : ashoreBefore;
            } else if (ashore > limit) {
                return;
            }
            int state = cell * RESTS + rest;
            if (ashore < get(best, state)) {
                put(best, state, ashore);
                put(then, state, ashore);
                coming |= bit(cell);
            }
        }
    }

    /** One that goes a route in a land. */
    private static final class Walker {
        int cell = NONE;
        private int leg = 0;
        private int left = 0;

        void start(Land land, Script route) {
            cell = land.cellOf(route.column, route.row);
            leg = 0;
            left = route.value(0, 1);
        }

        void step(Land land, Script route) {
            if (route.lines <= 0) {
                return;
            }
            int to = land.next(cell, route.value(leg, 0));
            if (to != NONE) {
                cell = to;
            }
            left--;
            if (left <= 0) {
                leg = leg + 1 < route.lines ? leg + 1 : 0;
                left = route.value(leg, 1);
            }
        }
    }

    /** What befalls one or two on their routes. */
    private static final class Meeting {
        private final Walker first = new Walker();
        private final Walker second = new Walker();
        private final int[] times = new int[CELLS];
        int meets = 0;
        int passes = 0;
        int firstMeet = NONE;
        int firstPass = NONE;
        int wet = 0;
        int longestDry = 0;

        int cellAt(Land land, Script route, int minute) {
            first.start(land, route);
            for (int t = 0; t < minute; t++) {
                first.step(land, route);
            }
            return first.cell;
        }

        void alone(Land land, Script route, int n) {
            long water = land.water(land.level);
            int dry = 0;
            wet = 0;
            longestDry = 0;
            first.start(land, route);
            for (int t = 0; t < n; t++) {
                if (has(water, first.cell)) {
                    wet++;
                    dry = 0;
                } else {
                    dry++;
                    longestDry = Math.max(longestDry, dry);
                }
                first.step(land, route);
            }
        }

        void together(Land land, Script one, Script other, int n) {
            meets = 0;
            passes = 0;
            firstMeet = NONE;
            firstPass = NONE;
            Arrays.fill(times, 0);
            first.start(land, one);
            second.start(land, other);
            for (int t = 0; t < n; t++) {
                if (first.cell == second.cell) {
                    meetAt(t);
                }
                int here = first.cell;
                int there = second.cell;
                first.step(land, one);
                second.step(land, other);
                boolean changed = first.cell == there && second.cell == here && here != there;
                if (changed && t + 1 < n) {
                    passAt(t + 1);
                }
            }
        }

        private void meetAt(int minute) {
            meets++;
            firstMeet = firstMeet == NONE ? minute : firstMeet;
            put(times, first.cell, get(times, first.cell) + 1);
        }

        private void passAt(int minute) {
            passes++;
            firstPass = firstPass == NONE ? minute : firstPass;
        }

        int place() {
            int place = NONE;
            int most = 0;
            for (int cell = 0; cell < times.length; cell++) {
                if (times[cell] > most) {
                    most = times[cell];
                    place = cell;
                }
            }
            return place;
        }
    }

    /** The walks that a sight leaves, by where they are and how long ashore. */
    private static final class Seeker {
        private static final int WIDTH = LAST_WALK + 2;

        private final long[] allowed = new long[LAST_WALK + 1];
        private long[] now = new long[CELLS * WIDTH];
        private long[] then = new long[CELLS * WIDTH];
        private boolean marking = false;
        private long water = 0L;
        private int hour = 0;

        /**
         * Counts the walks of n minutes. With a minute it marks instead: each state then has the set
         * of the cells at which its walks were at that minute.
         */
        void seek(Land land, Script sight, int n, int minute) {
            marking = minute != NONE;
            water = land.water(land.level);
            hour = land.hour;
            allow(land, sight);
            Arrays.fill(now, 0L);
            int start = lowest(get(allowed, 0));
            if (start != NONE) {
                put(now, start * WIDTH + (has(water, start) ? 0 : 1), 1L);
            }
            mark(minute == 0);
            for (int t = 1; t <= n; t++) {
                walkOn(land, get(allowed, t));
                mark(minute == t);
            }
        }

        private void allow(Land land, Script sight) {
            Arrays.fill(allowed, land.cells);
            put(allowed, 0, bit(land.cellOf(sight.column, sight.row)));
            for (int k = 0; k < sight.lines; k++) {
                int t = sight.value(k, 1);
                long there = bit(land.cellOf(sight.value(k, 2), sight.value(k, 3)));
                put(allowed, t, get(allowed, t) & (sight.value(k, 0) == 1 ? there : ~there));
            }
        }

        private void walkOn(Land land, long allow) {
            Arrays.fill(then, 0L);
            for (int cell = 0; cell < CELLS; cell++) {
                for (int ashore = 0; ashore < WIDTH; ashore++) {
                    long come = get(now, cell * WIDTH + ashore);
                    for (int direction = 0; direction <= STAY && come != 0L; direction++) {
                        int to = land.next(cell, direction);
                        if (has(allow, to)) {
                            arrive(to, ashore, come);
                        }
                    }
                }
            }
            long[] empty = now;
            now = then;
            then = empty;
        }

        private void arrive(int cell, int ashoreBefore, long come) {
            int ashore = has(water, cell) ? 0 : ashoreBefore + 1;
            if (ashore > hour) {
                return;
            }
            long there = get(then, cell * WIDTH + ashore);
            put(then, cell * WIDTH + ashore, marking ? there | come : there + come);
        }

        private void mark(boolean due) {
            for (int cell = 0; cell < CELLS && due; cell++) {
                for (int ashore = 0; ashore < WIDTH; ashore++) {
                    if (get(now, cell * WIDTH + ashore) != 0L) {
                        put(now, cell * WIDTH + ashore, bit(cell));
                    }
                }
            }
        }

        long ending(int cell) {
            long walks = 0L;
            for (int ashore = 0; ashore < WIDTH; ashore++) {
                walks += get(now, cell * WIDTH + ashore);
            }
            return walks;
        }

        long total() {
            long walks = 0L;
            for (int cell = 0; cell < CELLS; cell++) {
                walks += ending(cell);
            }
            return walks;
        }

        int onlyPlace() {
            long marks = 0L;
            for (int i = 0; i < now.length; i++) {
                marks |= now[i];
            }
            return Long.bitCount(marks) == 1 ? lowest(marks) : NONE;
        }

        int question(Land land) {
            long all = total();
            int best = NONE;
            long least = all + 1L;
            for (int cell = 0; cell < CELLS && all > 0L; cell++) {
                long there = ending(cell);
                long greater = Math.max(there, all - there);
                if (land.isCell(cell) && greater < least) {
                    least = greater;
                    best = cell;
                }
            }
            return best;
        }
    }

    /** Watchers at sea, moorings, and carrying over soil. */
    private static final class Lookout {
        private static final int MOORINGS = 14;
        /** A step on soil outweighs all steps of any way. */
        private static final int CARRIED = 1000;
        private static final int UNREACHED = 1000000;

        final int[] posts = new int[MOST_WATCHERS];
        int most = 0;
        private final long[] views = new long[CELLS];
        private final int[] neighbours = new int[MOORINGS];
        private final int[] costs = new int[CELLS];

        void post(Land land, int n) {
            long water = land.water(land.level);
            int many = Math.min(n, Long.bitCount(water));
            most = 0;
            Arrays.fill(posts, NONE);
            for (int cell = 0; cell < views.length; cell++) {
                views[cell] = has(water, cell) ? view(land, water, cell) : 0L;
            }
            // Any row of posts is better than none, also when nothing is to be seen.
            int least = -1;
            for (int a = 0; a < CELLS && many > 0; a++) {
                if (has(water, a)) {
                    least = postTwo(water, many, a, least);
                }
            }
            most = Math.max(least, 0);
        }

        private int postTwo(long water, int many, int a, int before) {
            if (many == 1) {
                return offer(before, a, NONE, NONE);
            }
            int best = before;
            for (int b = a + 1; b < CELLS; b++) {
                if (has(water, b)) {
                    best = postThree(water, many, a, b, best);
                }
            }
            return best;
        }

        private int postThree(long water, int many, int a, int b, int before) {
            if (many == 2) {
                return offer(before, a, b, NONE);
            }
            int best = before;
            for (int c = b + 1; c < CELLS; c++) {
                if (has(water, c)) {
                    best = offer(best, a, b, c);
                }
            }
            return best;
        }

        private int offer(int before, int a, int b, int c) {
            int sees = Long.bitCount(get(views, a) | get(views, b) | get(views, c));
            if (sees <= before) {
                return before;
            }
            put(posts, 0, a);
            put(posts, 1, b);
            put(posts, 2, c);
            return sees;
        }

        private static long view(Land land, long water, int cell) {
            long view = 0L;
            for (int direction = 0; direction < DIRECTIONS; direction++) {
                long at = land.shift(bit(cell), direction) & ~water;
                for (int i = 0; i < SIDE && at != 0L; i++) {
                    view |= at;
                    at = land.shift(at, direction) & ~water;
                }
            }
            return view;
        }

        /** The least set, as a number, of the largest ones. */
        int moor(Land land) {
            long water = land.water(land.level);
            long left = water & land.beside(land.cells & ~water);
            int many = 0;
            long row = 0L;
            for (int i = 0; i < MOORINGS && left != 0L; i++) {
                row |= left & -left;
                left &= left - 1L;
                many++;
            }
            setNeighbours(land, row);
            int best = 0;
            for (int set = 1; set < 1 << many; set++) {
                if (Integer.bitCount(set) > Integer.bitCount(best) && isApart(set)) {
                    best = set;
                }
            }
            return best;
        }

        /** Of each place in the row, the places beside it. */
        private void setNeighbours(Land land, long row) {
            Arrays.fill(neighbours, 0);
            int place = 0;
            for (int cell = 0; cell < CELLS; cell++) {
                if (has(row, cell)) {
                    put(neighbours, place, placesOf(land.beside(bit(cell)) & row, row));
                    place++;
                }
            }
        }

        private static int placesOf(long set, long row) {
            int places = 0;
            int place = 0;
            for (int cell = 0; cell < CELLS; cell++) {
                if (has(row, cell)) {
                    places |= has(set, cell) ? 1 << place : 0;
                    place++;
                }
            }
            return places;
        }

        private boolean isApart(int set) {
            for (int place = 0; place < neighbours.length; place++) {
                if ((set >> place & 1) != 0 && (set & neighbours[place]) != 0) {
                    return false;
                }
            }
            return true;
        }

        /** The steps on soil, or all steps, of the way that is carried least. */
        int carry(Land land, int from, int to, boolean steps) {
            long water = land.water(land.level);
            Arrays.fill(costs, UNREACHED);
            put(costs, from, 0);
            boolean better = true;
            for (int round = 0; round < CELLS && better; round++) {
                better = false;
                for (int cell = 0; cell < CELLS; cell++) {
                    better |= carryFrom(land, water, cell);
                }
            }
            int cost = get(costs, to);
            return steps ? cost % CARRIED : cost / CARRIED;
        }

        private boolean carryFrom(Land land, long water, int cell) {
            int before = get(costs, cell);
            boolean better = false;
            for (int direction = 0; direction < DIRECTIONS && before != UNREACHED; direction++) {
                int to = land.next(cell, direction);
                int cost = before + (has(water, to) ? 1 : CARRIED + 1);
                if (to != NONE && cost < get(costs, to)) {
                    put(costs, to, cost);
                    better = true;
                }
            }
            return better;
        }
    }
}
