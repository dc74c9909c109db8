import java.util.ArrayList;

/** Stations that tell of shaking before it comes to a town. The document is ../shared/DOC.md. */
public final class FirstSeconds {
    public static final int BAD = -1, FULL = -2, FINDING = -3, STATE = -4, NONE = -9;

    private static final int SIDE = 12;
    private static final int CELLS = SIDE * SIDE;
    private static final int MOST_STATIONS = 10;
    private static final int MOST_TOWNS = 6;
    private static final int MOST_PICKS = 60;
    private static final int MOST_QUAKES = 5;
    private static final int MOST_MESSAGES = 400;
    private static final int MOST_READINGS = 30;
    private static final int LEVELS = 4;
    private static final int LAST_TICK = 100000;
    private static final int MOST_SLOWNESS = 400;
    private static final int MOST_ERROR = 50;
    private static final int MOST_READING = 100000;
    private static final int MOST_STRENGTH = 1000000;
    private static final int MOST_WINDOW = 10;
    private static final int MOST_FACTOR = 1000;

    private static final int NOTHING = 1, BEYOND = 2, UNLIKE = 3, NOUGHT = 4, SIZE = 5;
    private static final int ANY = 0, JOINED = 1, OPENING = 2, LOOSE = 3;

    /** Added to a quake's number when a pick opened it. */
    private static final int OPENED = 10;
    /** The size of a row that is missing, as digest() tells it. */
    private static final int MISSING = -1;
    /** No pick has a tick below 0. */
    private static final int UNHEARD = -1;
    /** Beyond every tick that a heap can hold. */
    private static final int FAR = 1000000;

    private final Travels travels;
    private final ArrayList<Station> stations;
    private final ArrayList<Town> towns;
    private final ArrayList<Pick> picks;
    private final ArrayList<Quake> quakes;
    private final ArrayList<Message> kept;
    private final Heap heap;
    /** By level; the ends (0 and 5) bound what levels 1 and 4 may need. */
    private final int[] needs;
    /** How often each finding was answered. */
    private final int[] answered;
    private int latestFinding;
    private int now;
    private int error;
    private int messages;
    private int latestAsked;

    public FirstSeconds() {
        travels = new Travels(100);
        stations = new ArrayList<Station>();
        towns = new ArrayList<Town>();
        picks = new ArrayList<Pick>();
        quakes = new ArrayList<Quake>();
        kept = new ArrayList<Message>();
        heap = new Heap();
        needs = new int[] {0, 4, 8, 12, 16, 61};
        answered = new int[SIZE + 1];
        error = 2;
    }

    // ---- 1 the map, rows

    public int rule(int q, int e) {
        if (!isWithin(q, 1, MOST_SLOWNESS) || !isWithin(e, 0, MOST_ERROR)) return BAD;
        if (!picks.isEmpty()) return STATE;
        travels.reckon(q);
        error = e;
        return 1;
    }

    public int station(int cell) {
        if (!isCell(cell)) return BAD;
        if (stations.size() >= MOST_STATIONS) return FULL;
        if (!picks.isEmpty()) return STATE;
        stations.add(new Station(cell));
        return stations.size() - 1;
    }

    public int town(int cell) {
        if (!isCell(cell)) return BAD;
        if (towns.size() >= MOST_TOWNS) return FULL;
        towns.add(new Town(cell));
        return towns.size() - 1;
    }

    public int deaf(int station, boolean is) {
        if (!isStation(station)) return BAD;
        Station one = stations.get(station);
        boolean was = one.deaf;
        one.deaf = is;
        heap.forget();
        return was ? 1 : 0;
    }

    public int travel(int cell, int other) {
        if (!isCell(cell) || !isCell(other)) return BAD;
        return travels.between(cell, other);
    }

    public int later(int n) {
        if (!isWithin(n, 0, LAST_TICK - now)) return BAD;
        now += n;
        heap.forget();
        return now;
    }

    public int row(int station, int n) {
        if (!isStation(station) || n > MOST_READINGS) return BAD;
        if (n < 0) return found(SIZE);
        rowOf(station).begin(n);
        return n;
    }

    public int lay(int station, int i, int v) {
        if (!isStation(station) || !isWithin(v, -MOST_READING, MOST_READING)) return BAD;
        Row row = rowOf(station);
        if (row.isMissing()) return found(NOTHING);
        if (!row.has(i, 1)) return found(BEYOND);
        latestAsked = row.readings[i];
        row.readings[i] = v;
        return 1;
    }

    public int tear(int station) {
        if (!isStation(station)) return BAD;
        Row row = rowOf(station);
        if (row.isMissing()) return found(NOTHING);
        row.size = MISSING;
        return 1;
    }

    public int copy(int station, int i, int other, int j, int n) {
        if (!isStation(station) || !isStation(other)) return BAD;
        if (n < 0) return found(SIZE);
        Row from = rowOf(station);
        Row to = rowOf(other);
        if (from.isMissing() || to.isMissing()) return found(NOTHING);
        if (!from.has(i, n) || !to.has(j, n)) return found(BEYOND);
        System.arraycopy(from.readings, i, to.readings, j, n);
        return 1;
    }

    public int mean(int station) {
        if (!isStation(station)) return BAD;
        Row row = rowOf(station);
        if (row.isMissing()) return found(NOTHING);
        if (row.size == 0) return found(NOUGHT);
        return (int) (row.sizes(0, row.size) / row.size);
    }

    public int first(int station, int s, int l, int a, int b) {
        if (!isStation(station)) return BAD;
        if (!isWithin(s, 1, MOST_WINDOW) || !isWithin(l, 1, MOST_WINDOW)) return BAD;
        if (!isWithin(a, 1, MOST_FACTOR) || !isWithin(b, 1, MOST_FACTOR)) return BAD;
        Row row = rowOf(station);
        if (row.isMissing()) return found(NOTHING);
        return row.firstPick(s, l, a, b);
    }

    // ---- 2 picks, quakes

    public int pick(int station, int tick, int strength) {
        if (!isStation(station)) return BAD;
        if (!isWithin(tick, 0, now) || !isWithin(strength, 1, MOST_STRENGTH)) return BAD;
        if (picks.size() >= MOST_PICKS) return FULL;
        int taker = takerOf(station, tick);
        if (taker != NONE) {
            quakes.get(taker).hear(station, tick);
            heap.forget();
            picks.add(new Pick(station, tick, strength, JOINED, taker));
            return taker;
        }
        if (quakes.size() < MOST_QUAKES) {
            int opened = quakes.size();
            quakes.add(new Quake(station, tick, strength));
            picks.add(new Pick(station, tick, strength, OPENING, opened));
            return OPENED + opened;
        }
        picks.add(new Pick(station, tick, strength, LOOSE, NONE));
        return NONE;
    }

    public int told(int pick, int what) {
        if (!isPick(pick)) return BAD;
        Pick one = picks.get(pick);
        switch (what) {
            case 0: return one.station;
            case 1: return one.tick;
            case 2: return one.strength;
            case 3: return one.kind;
            case 4: return one.quake;
            default: return BAD;
        }
    }

    public int mark(int pick, int kind) {
        if (!isPick(pick) || !isWithin(kind, ANY, LOOSE)) return BAD;
        Pick one = picks.get(pick);
        if (!one.is(kind)) return found(UNLIKE);
        return kind == JOINED || kind == OPENING ? one.quake : one.tick;
    }

    public int quake(int quake, int what) {
        if (!isQuake(quake)) return BAD;
        switch (what) {
            case 0: return quakes.get(quake).heard;
            case 1: return heapOf(quake).cells;
            case 2: return heapOf(quake).low;
            case 3: return heapOf(quake).high;
            case 4: return isOver(quake) ? 1 : 0;
            default: return BAD;
        }
    }

    public int cell(int quake, int i) {
        if (!isQuake(quake)) return BAD;
        return heapOf(quake).cellAt(i);
    }

    public int time(int quake, int cell, boolean last) {
        if (!isQuake(quake) || !isCell(cell)) return BAD;
        Heap left = heapOf(quake);
        if (!left.has(cell)) return NONE;
        latestAsked = last ? left.last[cell] : left.first[cell];
        return 1;
    }

    public int holds(int quake, int cell, int t) {
        if (!isQuake(quake) || !isCell(cell)) return BAD;
        Heap left = heapOf(quake);
        return isWithin(t, left.first[cell], left.last[cell]) ? 1 : 0;
    }

    // ---- 3 towns

    public int felt(int town, int quake) {
        if (!isTown(town) || !isQuake(quake)) return BAD;
        if (isOver(quake)) return NONE;
        return feltIn(town, quake);
    }

    public int level(int k, int f) {
        if (!isWithin(k, 1, LEVELS)) return BAD;
        if (f <= needs[k - 1] || f >= needs[k + 1]) return BAD;
        int was = needs[k];
        needs[k] = f;
        return was;
    }

    public int warn() {
        int levels = 0;
        for (int quake = 0; quake < quakes.size(); quake++) {
            boolean over = isOver(quake);
            for (int town = 0; town < towns.size(); town++) {
                levels += over ? takeBack(town, quake) : tellFelt(town, quake);
            }
        }
        return levels;
    }

    public int drill(int town, int level) {
        if (!isTown(town) || !isWithin(level, 1, LEVELS)) return BAD;
        if (messages >= MOST_MESSAGES) return FULL;
        send(town, NONE, level);
        return messages;
    }

    public int message(int i, int what) {
        if (!isWithin(what, 0, 3)) return BAD;
        if (!isWithin(i, 0, kept.size() - 1)) return NONE;
        Message one = kept.get(i);
        switch (what) {
            case 0: return one.town;
            case 1: return one.quake;
            case 2: return one.level;
            default: return one.tick;
        }
    }

    public int alarm(int town, int quake) {
        if (!isTown(town) || !isQuake(quake)) return BAD;
        Quake one = quakes.get(quake);
        for (int level = LEVELS; level >= 1; level--) {
            if (one.wasTold(town, level) && !one.wasTakenBack(town, level)) return level;
        }
        return 0;
    }

    public int late(int town, int quake) {
        if (!isTown(town) || !isQuake(quake)) return BAD;
        if (isOver(quake)) return NONE;
        if (latestArrival(town, quake) <= now) return 1;
        return earliestArrival(town, quake) > now ? 2 : 0;
    }

    public int left(int town, int quake) {
        if (!isTown(town) || !isQuake(quake)) return BAD;
        if (isOver(quake)) return NONE;
        return Math.max(0, earliestArrival(town, quake) - now);
    }

    // ---- 4 what is told

    public int asked() {
        return latestAsked;
    }

    public int count(int what) {
        switch (what) {
            case 0: return stations.size();
            case 1: return towns.size();
            case 2: return picks.size();
            case 3: return quakes.size();
            case 4: return messages;
            case 5: return now;
            default: return BAD;
        }
    }

    public int finding() {
        return latestFinding;
    }

    public int findings(int f) {
        if (!isWithin(f, NOTHING, SIZE)) return BAD;
        return answered[f];
    }

    public long digest() {
        long h = mixed(17, now);
        for (int i = 0; i < stations.size(); i++) {
            h = mixedRow(h, rowOf(i));
        }
        for (int i = 0; i < picks.size(); i++) {
            for (int what = 0; what <= 4; what++) h = mixed(h, told(i, what));
        }
        for (int i = 0; i < quakes.size(); i++) {
            for (int what = 0; what <= 4; what++) h = mixed(h, quake(i, what));
        }
        for (int i = 0; i < kept.size(); i++) {
            for (int what = 0; what <= 3; what++) h = mixed(h, message(i, what));
        }
        return h;
    }

    // ---- what the calls share

    private static boolean isWithin(int n, int least, int most) {
        return n >= least && n <= most;
    }

    private static boolean isCell(int cell) {
        return isWithin(cell, 0, CELLS - 1);
    }

    private boolean isStation(int station) {
        return isWithin(station, 0, stations.size() - 1);
    }

    private boolean isTown(int town) {
        return isWithin(town, 0, towns.size() - 1);
    }

    private boolean isPick(int pick) {
        return isWithin(pick, 0, picks.size() - 1);
    }

    private boolean isQuake(int quake) {
        return isWithin(quake, 0, quakes.size() - 1);
    }

    private Row rowOf(int station) {
        return stations.get(station).row;
    }

    private int found(int f) {
        latestFinding = f;
        answered[f]++;
        return FINDING;
    }

    private static int bits(int n) {
        return 32 - Integer.numberOfLeadingZeros(n);
    }

    private static long mixed(long h, int v) {
        return 31 * h + v;
    }

    private static long mixedRow(long h, Row row) {
        long mix = mixed(h, row.size);
        for (int i = 0; i < row.size; i++) mix = mixed(mix, row.readings[i]);
        return mix;
    }

    private int takerOf(int station, int tick) {
        for (int quake = 0; quake < quakes.size(); quake++) {
            if (takes(quake, station, tick)) return quake;
        }
        return NONE;
    }

    /** Over is asked of the heap as it is: a pick that would give it a cell again comes too late. */
    private boolean takes(int quake, int station, int tick) {
        Quake one = quakes.get(quake);
        if (one.hears(station) || heapOf(quake).cells == 0) return false;
        fillHeap(one, station, tick);
        return heap.cells > 0;
    }

    private boolean isOver(int quake) {
        return heapOf(quake).cells == 0;
    }

    private Heap heapOf(int quake) {
        if (heap.quake != quake) {
            Quake one = quakes.get(quake);
            fillHeap(one, NONE, UNHEARD);
            heap.measure(travels, stations.get(one.firstStation).cell, one.firstStrength);
            heap.quake = quake;
        }
        return heap;
    }

    /** The heap as if one station more (NONE: no more) had been heard at a tick; it is nobody's yet. */
    private void fillHeap(Quake one, int more, int tick) {
        heap.clear();
        for (int s = 0; s < stations.size(); s++) {
            Station station = stations.get(s);
            int heard = s == more ? tick : one.ticks[s];
            if (heard != UNHEARD) {
                heap.narrow(travels, station.cell, heard - error, heard + error);
            } else if (!station.deaf) {
                heap.narrow(travels, station.cell, now - error, FAR);
            }
        }
        heap.countCells();
    }

    /** Of a quake that is not over. */
    private int feltIn(int town, int quake) {
        Heap left = heapOf(quake);
        int townCell = towns.get(town).cell;
        int loss = 0;
        for (int cell = 0; cell < CELLS; cell++) {
            if (left.has(cell)) loss = Math.max(loss, bits(travels.between(cell, townCell) + 1));
        }
        return Math.max(0, left.low - loss);
    }

    /** Of a quake that is not over. */
    private int earliestArrival(int town, int quake) {
        Heap left = heapOf(quake);
        int townCell = towns.get(town).cell;
        int earliest = FAR;
        for (int cell = 0; cell < CELLS; cell++) {
            if (!left.has(cell)) continue;
            earliest = Math.min(earliest, left.first[cell] + travels.between(cell, townCell));
        }
        return earliest;
    }

    /** Of a quake that is not over. */
    private int latestArrival(int town, int quake) {
        Heap left = heapOf(quake);
        int townCell = towns.get(town).cell;
        int latest = -FAR;
        for (int cell = 0; cell < CELLS; cell++) {
            if (!left.has(cell)) continue;
            latest = Math.max(latest, left.last[cell] + travels.between(cell, townCell));
        }
        return latest;
    }

    private int tellFelt(int town, int quake) {
        Quake one = quakes.get(quake);
        int felt = feltIn(town, quake);
        int levels = 0;
        for (int level = 1; level <= LEVELS; level++) {
            if (felt < needs[level] || one.wasTold(town, level)) continue;
            one.tell(town, level);
            send(town, quake, level);
            levels++;
        }
        return levels;
    }

    private int takeBack(int town, int quake) {
        Quake one = quakes.get(quake);
        int levels = 0;
        for (int level = 1; level <= LEVELS; level++) {
            if (!one.wasTold(town, level) || one.wasTakenBack(town, level)) continue;
            one.takeBack(town, level);
            send(town, quake, -level);
            levels++;
        }
        return levels;
    }

    /** warn() tells on when no more are kept: only drill() is refused then. */
    private void send(int town, int quake, int level) {
        if (kept.size() < MOST_MESSAGES) kept.add(new Message(town, quake, level, now));
        messages++;
    }

    /** How long shaking takes from one cell to another. */
    private static final class Travels {
        /** By how far apart, SIDE up + along: the same for all pairs so far apart. */
        private final int[] ticks = new int[CELLS];

        private Travels(int slowness) {
            reckon(slowness);
        }

        private void reckon(int slowness) {
            for (int i = 0; i < CELLS; i++) {
                int up = i / SIDE;
                int along = i % SIDE;
                ticks[i] = root(slowness * (up * up + along * along));
            }
        }

        private int between(int cell, int other) {
            int up = Math.abs(cell / SIDE - other / SIDE);
            int along = Math.abs(cell % SIDE - other % SIDE);
            return ticks[SIDE * up + along];
        }

        /** Up to 511: the longest way takes 311. */
        private static int root(int square) {
            int t = 0;
            for (int step = 256; step > 0; step /= 2) {
                if ((t + step) * (t + step) <= square) t += step;
            }
            return t;
        }
    }

    private static final class Station {
        private final int cell;
        private final Row row = new Row();
        private boolean deaf;

        private Station(int cell) {
            this.cell = cell;
        }
    }

    private static final class Town {
        private final int cell;

        private Town(int cell) {
            this.cell = cell;
        }
    }

    private static final class Row {
        private final int[] readings = new int[MOST_READINGS];
        private int size = MISSING;

        private boolean isMissing() {
            return size == MISSING;
        }

        private void begin(int n) {
            for (int i = 0; i < readings.length; i++) readings[i] = 0;
            size = n;
        }

        /** Whether n readings (0 and more) stand from a place on. */
        private boolean has(int from, int n) {
            return from >= 0 && n <= size - from;
        }

        private long sizes(int from, int n) {
            long sum = 0;
            for (int i = from; i < from + n; i++) sum += Math.abs(readings[i]);
            return sum;
        }

        private int firstPick(int s, int l, int a, int b) {
            for (int i = l; i <= size - s; i++) {
                if (sizes(i, s) * l * b > sizes(i - l, l) * s * a) return i;
            }
            return NONE;
        }
    }

    private static final class Pick {
        private final int station;
        private final int tick;
        private final int strength;
        private final int kind;
        private final int quake;

        private Pick(int station, int tick, int strength, int kind, int quake) {
            this.station = station;
            this.tick = tick;
            this.strength = strength;
            this.kind = kind;
            this.quake = quake;
        }

        private boolean is(int asked) {
            return asked == ANY || asked == kind || asked == JOINED && kind == OPENING;
        }
    }

    private static final class Quake {
        private final int firstStation;
        private final int firstStrength;
        /** The tick of its pick of each station. */
        private final int[] ticks = new int[MOST_STATIONS];
        private int heard;
        /** By town, a bit for each level; both stay for ever: a level is told once and taken back once. */
        private final int[] told = new int[MOST_TOWNS];
        private final int[] takenBack = new int[MOST_TOWNS];

        private Quake(int station, int tick, int strength) {
            firstStation = station;
            firstStrength = strength;
            for (int s = 0; s < ticks.length; s++) ticks[s] = UNHEARD;
            hear(station, tick);
        }

        private boolean hears(int station) {
            return ticks[station] != UNHEARD;
        }

        private void hear(int station, int tick) {
            ticks[station] = tick;
            heard++;
        }

        private boolean wasTold(int town, int level) {
            return (told[town] >> level & 1) == 1;
        }

        private boolean wasTakenBack(int town, int level) {
            return (takenBack[town] >> level & 1) == 1;
        }

        private void tell(int town, int level) {
            told[town] |= 1 << level;
        }

        private void takeBack(int town, int level) {
            takenBack[town] |= 1 << level;
        }
    }

    /** All cells and times that a quake's picks and silences leave over; one heap serves all quakes. */
    private static final class Heap {
        private final int[] first = new int[CELLS];
        private final int[] last = new int[CELLS];
        private int cells;
        private int low;
        private int high;
        /** Whose heap this is; NONE: nobody's, and to be filled anew. */
        private int quake = NONE;

        private void forget() {
            quake = NONE;
        }

        private void clear() {
            quake = NONE;
            for (int cell = 0; cell < CELLS; cell++) {
                first[cell] = -FAR;
                last[cell] = FAR;
            }
        }

        /** Leaves the times at which shaking comes to a station at least, at most. */
        private void narrow(Travels travels, int stationCell, int least, int most) {
            for (int cell = 0; cell < CELLS; cell++) {
                int way = travels.between(cell, stationCell);
                first[cell] = Math.max(first[cell], least - way);
                last[cell] = Math.min(last[cell], most - way);
            }
        }

        private void countCells() {
            cells = 0;
            for (int cell = 0; cell < CELLS; cell++) {
                if (has(cell)) cells++;
            }
        }

        /** The least and the greatest size over its cells, by the quake's first pick. */
        private void measure(Travels travels, int stationCell, int strength) {
            low = NONE;
            high = NONE;
            for (int cell = 0; cell < CELLS; cell++) {
                if (!has(cell)) continue;
                int size = bits(strength * (travels.between(cell, stationCell) + 1));
                if (low == NONE || size < low) low = size;
                if (size > high) high = size;
            }
        }

        private boolean has(int cell) {
            return first[cell] <= last[cell];
        }

        private int cellAt(int i) {
            int ahead = 0;
            for (int cell = 0; cell < CELLS; cell++) {
                if (!has(cell)) continue;
                if (ahead == i) return cell;
                ahead++;
            }
            return NONE;
        }
    }

    private static final class Message {
        private final int town;
        private final int quake;
        /** Below 0: taken back. */
        private final int level;
        private final int tick;

        private Message(int town, int quake, int level, int tick) {
            this.town = town;
            this.quake = quake;
            this.level = level;
            this.tick = tick;
        }
    }
}
