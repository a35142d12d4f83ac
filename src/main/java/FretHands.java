/** Fingerings of a plucked instrument, the plan that moves the hand least, and tabs. */
public final class FretHands {
    public static final int NONE = -1, OUTSIDE = -2, UNKNOWN = -3, STATE = -4, ROOM = -5;

    private static final int MOST_STRINGS = 7;
    private static final int MOST_EVENTS = 40;
    private static final int MOST_PITCHES = 4;
    private static final int MOST_SIGNS = 2000;
    private static final int MOST_TIES = 999999;

    private static final int HIGHEST_OPEN_PITCH = 99;
    private static final int HIGHEST_PITCH = 123;
    private static final int LONGEST_NECK = 24;
    private static final int FIRST_NECK = 12;
    private static final int HEAVIEST = 20;

    // Positions are frets, so a row with one place for each of them is one longer than the neck.
    private static final int POSITIONS = LONGEST_NECK + 1;
    private static final int HAND_REACH = 3;

    private static final int MOVE = 0, HIGH = 1, REACH = 2, LOOSE = 3, KINDS = 4;

    private static final int COST_PART = 5, NUMBER_PART = 6;

    private static final int LINE_END = 10, DASH = 45, ZERO = 48, NINE = 57, BAR = 124;
    private static final int HIGHEST_SIGN = 127;

    private static final int FAULT_BASE = -10;

    private final Instrument instrument;
    private final int[] weights;
    private final Tune tune;
    private final Plan latest;
    private final GripFinder finder;
    private final Planner planner;
    private final Tape signs;
    private final TabWriter writer;
    private final TabReader reader;

    public FretHands() {
        instrument = new Instrument();
        weights = new int[] {1, 1, 1, 1};
        tune = new Tune();
        latest = new Plan();
        finder = new GripFinder(instrument, weights, tune);
        planner = new Planner(instrument, weights, tune, finder);
        signs = new Tape();
        writer = new TabWriter(instrument, tune, latest, signs);
        reader = new TabReader(instrument, tune, signs);
    }

    public int string(int pitch) {
        if (pitch < 0 || pitch > HIGHEST_OPEN_PITCH) {
            return OUTSIDE;
        }
        if (tune.events > 0) {
            return STATE;
        }
        if (!instrument.addString(pitch)) {
            return ROOM;
        }
        latest.forget();
        return instrument.strings;
    }

    public int clear() {
        int before = tune.events;
        instrument.strings = 0;
        tune.events = 0;
        latest.forget();
        return before;
    }

    public int neck(int n) {
        if (n < 1 || n > LONGEST_NECK || n <= instrument.capoFret) {
            return OUTSIDE;
        }
        int before = instrument.lastFret;
        instrument.lastFret = n;
        latest.forget();
        return before;
    }

    public int capo(int n) {
        if (n < 0 || n >= instrument.lastFret) {
            return OUTSIDE;
        }
        int before = instrument.capoFret;
        instrument.capoFret = n;
        latest.forget();
        return before;
    }

    public int weight(int kind, int w) {
        if (kind < 0 || kind >= KINDS || w < 0 || w > HEAVIEST) {
            return OUTSIDE;
        }
        int before = weights[kind];
        weights[kind] = w;
        latest.forget();
        return before;
    }

    public int event(int pitch) {
        if (!isPitch(pitch)) {
            return OUTSIDE;
        }
        if (!tune.addEvent()) {
            return ROOM;
        }
        tune.addPitch(pitch, NONE);
        latest.forget();
        return tune.events - 1;
    }

    public int pitch(int pitch) {
        int last = tune.events - 1;
        if (!isPitch(pitch) || tune.contains(last, pitch)) {
            return OUTSIDE;
        }
        if (last < 0) {
            return STATE;
        }
        if (!tune.addPitch(pitch, NONE)) {
            return ROOM;
        }
        latest.forget();
        return tune.sizeOf(last);
    }

    public int bind(int event, int i, int string) {
        if (!tune.hasEvent(event)) {
            return UNKNOWN;
        }
        if (!tune.hasPitch(event, i) || (string != NONE && !instrument.hasString(string))) {
            return OUTSIDE;
        }
        int before = tune.stringOf(event, i);
        tune.bindPitch(event, i, string);
        latest.forget();
        return before;
    }

    public int drop() {
        if (tune.events == 0) {
            return STATE;
        }
        tune.events--;
        latest.forget();
        return tune.events;
    }

    public int told(int what) {
        switch (what) {
            case 0:
                return instrument.strings;
            case 1:
                return instrument.lastFret;
            case 2:
                return instrument.capoFret;
            case 3:
                return tune.events;
            case 4:
                return signs.size;
            default:
                return OUTSIDE;
        }
    }

    public int at(int event, int i) {
        return tune.hasEvent(event) ? tune.pitchOf(event, i) : UNKNOWN;
    }

    public int bound(int event, int i) {
        return tune.hasEvent(event) ? tune.stringOf(event, i) : UNKNOWN;
    }

    public int fret(int string, int pitch) {
        return instrument.hasString(string) ? instrument.fretOf(string, pitch) : OUTSIDE;
    }

    public int grips(int event) {
        if (!tune.hasEvent(event)) {
            return UNKNOWN;
        }
        finder.survey(event);
        return finder.countBelow(POSITIONS);
    }

    public int grip(int event, int k, int what) {
        if (!tune.hasEvent(event)) {
            return UNKNOWN;
        }
        if (what < 0 || what > COST_PART) {
            return OUTSIDE;
        }
        if (!finder.findNumber(event, k)) {
            return NONE;
        }
        return partOf(event, what, finder.wantedPosition, finder.wantedStrings, finder.wantedCost);
    }

    public int plan() {
        if (tune.events == 0) {
            return STATE;
        }
        latest.forget();
        planner.search();
        if (planner.leastSum != NONE) {
            planner.choose(latest);
        }
        return planner.leastSum;
    }

    public int planned(int event, int what) {
        if (what < 0 || what > NUMBER_PART) {
            return OUTSIDE;
        }
        if (!latest.hasEvent(event)) {
            return NONE;
        }
        if (what == NUMBER_PART) {
            return latest.numbers[event];
        }
        return partOf(event, what,
                latest.positions[event], latest.strings[event], latest.costs[event]);
    }

    public int ties() {
        if (tune.events == 0) {
            return STATE;
        }
        planner.search();
        return planner.leastSum == NONE ? 0 : planner.leastWays;
    }

    public int sign(int c) {
        if (c < 1 || c > HIGHEST_SIGN) {
            return OUTSIDE;
        }
        return signs.add(c) ? signs.size : ROOM;
    }

    public int tape(int i) {
        return signs.signAt(i);
    }

    public int empty() {
        int before = signs.size;
        signs.size = 0;
        return before;
    }

    public int write() {
        if (!latest.isFound()) {
            return STATE;
        }
        writer.writeTab();
        return signs.size;
    }

    public int read() {
        if (instrument.strings == 0) {
            return STATE;
        }
        int fault = reader.findFault();
        if (fault == 0) {
            reader.takeEvents();
            latest.forget();
        }
        signs.size = 0;
        return fault == 0 ? tune.events : FAULT_BASE - fault;
    }

    public int place() {
        return reader.faultPlace;
    }

    private static boolean isPitch(int pitch) {
        return pitch >= 0 && pitch <= HIGHEST_PITCH;
    }

    private int partOf(int event, int what, int position, int strings, int cost) {
        if (what == 0) {
            return position;
        }
        if (what == COST_PART) {
            return cost;
        }
        return tune.hasPitch(event, what - 1) ? StringRow.stringIn(strings, what - 1) : NONE;
    }

    /** The strings of a grip's pitches, three bits each in one int: no grip is an object. */
    private static final class StringRow {
        private static final int BITS = 3, MASK = 7;

        static int with(int row, int i, int string) {
            return row | (string << (BITS * i));
        }

        static int stringIn(int row, int i) {
            return (row >> (BITS * i)) & MASK;
        }
    }

    private static final class Instrument {
        private final int[] openPitches = new int[MOST_STRINGS];
        int strings = 0;
        int lastFret = FIRST_NECK;
        int capoFret = 0;

        boolean hasString(int string) {
            return string >= 0 && string < strings;
        }

        boolean addString(int pitch) {
            if (strings >= MOST_STRINGS) {
                return false;
            }
            openPitches[strings] = pitch;
            strings++;
            return true;
        }

        int fretOf(int string, int pitch) {
            if (!hasString(string)) {
                return NONE;
            }
            int fret = pitch - openPitches[string];
            return fret >= capoFret && fret <= lastFret ? fret : NONE;
        }

        int pitchBehindCapo(int string, int frets) {
            return hasString(string) ? openPitches[string] + capoFret + frets : NONE;
        }
    }

    private static final class Tune {
        private final int[] sizes = new int[MOST_EVENTS];
        private final int[] pitches = new int[MOST_EVENTS * MOST_PITCHES];
        private final int[] bonds = new int[MOST_EVENTS * MOST_PITCHES];
        int events = 0;

        boolean hasEvent(int event) {
            return event >= 0 && event < events;
        }

        int sizeOf(int event) {
            return hasEvent(event) ? sizes[event] : 0;
        }

        boolean hasPitch(int event, int i) {
            return hasEvent(event) && i >= 0 && i < sizes[event];
        }

        int pitchOf(int event, int i) {
            return hasPitch(event, i) ? pitches[event * MOST_PITCHES + i] : NONE;
        }

        int stringOf(int event, int i) {
            return hasPitch(event, i) ? bonds[event * MOST_PITCHES + i] : NONE;
        }

        void bindPitch(int event, int i, int string) {
            if (hasPitch(event, i)) {
                bonds[event * MOST_PITCHES + i] = string;
            }
        }

        boolean contains(int event, int pitch) {
            int size = sizeOf(event);
            for (int i = 0; i < size; i++) {
                if (pitchOf(event, i) == pitch) {
                    return true;
                }
            }
            return false;
        }

        /** An event without pitches; its first one is to follow at once. */
        boolean addEvent() {
            if (events >= MOST_EVENTS) {
                return false;
            }
            sizes[events] = 0;
            events++;
            return true;
        }

        boolean addPitch(int pitch, int string) {
            int last = events - 1;
            if (last < 0 || sizes[last] >= MOST_PITCHES) {
                return false;
            }
            int cell = last * MOST_PITCHES + sizes[last];
            pitches[cell] = pitch;
            bonds[cell] = string;
            sizes[last]++;
            return true;
        }
    }

    /**
     * Goes through the grips of one event. Each way to lay the pitches on strings is met once, in
     * the order of the strings, and told at every position from which the hand can hold it: so
     * each position meets its grips in their order, too.
     */
    private static final class GripFinder {
        private final Instrument instrument;
        private final int[] weights;
        private final Tune tune;

        final int[] counts = new int[POSITIONS];
        final int[] leastCosts = new int[POSITIONS];
        final int[] leastCounts = new int[POSITIONS];
        final int[] firstStrings = new int[POSITIONS];
        private final int[] firstPlaces = new int[POSITIONS];

        // The event that is gone through, and the frets of the way to lay it that is being tried.
        private final int[] pitches = new int[MOST_PITCHES];
        private final int[] bonds = new int[MOST_PITCHES];
        private final int[] frets = new int[MOST_PITCHES];
        private int size = 0;

        int wantedPosition = NONE;
        private int wantedPlace = NONE;
        int wantedStrings = 0;
        int wantedCost = 0;

        GripFinder(Instrument instrument, int[] weights, Tune tune) {
            this.instrument = instrument;
            this.weights = weights;
            this.tune = tune;
        }

        void survey(int event) {
            wantedPosition = NONE;
            goThrough(event);
        }

        int countBelow(int position) {
            int sum = 0;
            for (int p = 0; p < position && p < POSITIONS; p++) {
                sum += counts[p];
            }
            return sum;
        }

        int numberOfFirstLeast(int position) {
            if (position < 0 || position >= POSITIONS) {
                return NONE;
            }
            return countBelow(position) + firstPlaces[position];
        }

        /** Only the counts tell at which position a number lies, hence a second way through. */
        boolean findNumber(int event, int number) {
            survey(event);
            if (number < 0) {
                return false;
            }
            int left = number;
            for (int p = 0; p < POSITIONS; p++) {
                if (left < counts[p]) {
                    wantedPosition = p;
                    wantedPlace = left;
                    goThrough(event);
                    return true;
                }
                left -= counts[p];
            }
            return false;
        }

        private void goThrough(int event) {
            for (int p = 0; p < POSITIONS; p++) {
                counts[p] = 0;
            }
            size = Math.min(tune.sizeOf(event), MOST_PITCHES);
            for (int i = 0; i < size; i++) {
                pitches[i] = tune.pitchOf(event, i);
                bonds[i] = tune.stringOf(event, i);
            }
            // These bounds let a grip without fingers stand at every position.
            layFrom(0, 0, 0, instrument.lastFret, instrument.capoFret, 0);
        }

        private void layFrom(int i, int used, int row, int low, int high, int cost) {
            if (high - low > HAND_REACH) {
                return;
            }
            if (i >= size || i >= MOST_PITCHES) {
                tellPositions(row, low, high, cost);
                return;
            }
            for (int s = 0; s < instrument.strings; s++) {
                boolean free = (used & (1 << s)) == 0 && (bonds[i] == NONE || bonds[i] == s);
                int fret = free ? instrument.fretOf(s, pitches[i]) : NONE;
                if (fret == NONE) {
                    continue;
                }
                frets[i] = fret;
                int usedNow = used | (1 << s);
                int rowNow = StringRow.with(row, i, s);
                if (fret == instrument.capoFret) {
                    layFrom(i + 1, usedNow, rowNow, low, high, cost + weights[LOOSE]);
                } else {
                    int costNow = cost + weights[HIGH] * (fret - instrument.capoFret);
                    int lowNow = Math.min(low, fret);
                    int highNow = Math.max(high, fret);
                    layFrom(i + 1, usedNow, rowNow, lowNow, highNow, costNow);
                }
            }
        }

        private void tellPositions(int row, int low, int high, int cost) {
            int from = Math.max(instrument.capoFret + 1, high - HAND_REACH);
            for (int p = from; p <= low; p++) {
                tell(p, row, cost + weights[REACH] * pitchesAt(p + HAND_REACH));
            }
        }

        private int pitchesAt(int fret) {
            int sum = 0;
            for (int i = 0; i < size && i < MOST_PITCHES; i++) {
                if (frets[i] == fret) {
                    sum++;
                }
            }
            return sum;
        }

        private void tell(int position, int row, int cost) {
            if (position < 0 || position >= POSITIONS) {
                return;
            }
            int place = counts[position];
            counts[position]++;
            if (place == 0 || cost < leastCosts[position]) {
                leastCosts[position] = cost;
                leastCounts[position] = 1;
                firstPlaces[position] = place;
                firstStrings[position] = row;
            } else if (cost == leastCosts[position]) {
                leastCounts[position]++;
            }
            if (position == wantedPosition && place == wantedPlace) {
                wantedStrings = row;
                wantedCost = cost;
            }
        }
    }

    /** A grip for each event, as the latest search chose them; without events none is found. */
    private static final class Plan {
        final int[] positions = new int[MOST_EVENTS];
        final int[] strings = new int[MOST_EVENTS];
        final int[] costs = new int[MOST_EVENTS];
        final int[] numbers = new int[MOST_EVENTS];
        private int events = 0;

        void forget() {
            events = 0;
        }

        boolean isFound() {
            return events > 0;
        }

        boolean hasEvent(int event) {
            return event >= 0 && event < events;
        }

        void addFirstLeast(GripFinder finder, int position) {
            if (events >= MOST_EVENTS || position < 0 || position >= POSITIONS) {
                return;
            }
            positions[events] = position;
            strings[events] = finder.firstStrings[position];
            costs[events] = finder.leastCosts[position];
            numbers[events] = finder.numberOfFirstLeast(position);
            events++;
        }
    }

    /**
     * Of the grips of one event at one position only the cheapest can be in a plan of the least
     * sum, as the way to the neighbours hangs on the position alone: so positions are enough to
     * search over. It goes from the last event back, to choose from the first one on.
     */
    private static final class Planner {
        private final Instrument instrument;
        private final int[] weights;
        private final Tune tune;
        private final GripFinder finder;

        // For each event and position: the least sum from there to the end (NONE: no grip there),
        // and in how many ways it is reached.
        private final int[] sums = new int[MOST_EVENTS * POSITIONS];
        private final int[] ways = new int[MOST_EVENTS * POSITIONS];

        // Of the rest of the tune that was weighed last; behind search() that is the whole tune.
        int leastSum = NONE;
        int leastWays = 0;

        Planner(Instrument instrument, int[] weights, Tune tune, GripFinder finder) {
            this.instrument = instrument;
            this.weights = weights;
            this.tune = tune;
            this.finder = finder;
        }

        void search() {
            for (int e = tune.events - 1; e >= 0; e--) {
                finder.survey(e);
                for (int p = 0; p < POSITIONS; p++) {
                    fillCell(e, p);
                }
            }
            weighRest(0, NONE);
        }

        /** To be called behind a search() that found a plan, as it goes by the sums. */
        void choose(Plan plan) {
            int before = NONE;
            for (int e = 0; e < tune.events; e++) {
                int position = firstBest(e, before);
                finder.survey(e);
                plan.addFirstLeast(finder, position);
                before = position;
            }
        }

        private void fillCell(int event, int position) {
            if (!isCell(event, position)) {
                return;
            }
            int cell = event * POSITIONS + position;
            sums[cell] = NONE;
            if (finder.counts[position] == 0) {
                return;
            }
            weighRest(event + 1, position);
            if (leastSum == NONE) {
                return;
            }
            sums[cell] = finder.leastCosts[position] + leastSum;
            ways[cell] = atMostTies((long) finder.leastCounts[position] * leastWays);
        }

        /** From an event on, if the hand comes from a position; NONE: the tune begins there. */
        private void weighRest(int event, int before) {
            if (event >= tune.events) {
                leastSum = 0;
                leastWays = 1;
                return;
            }
            leastSum = NONE;
            leastWays = 0;
            for (int p = instrument.capoFret + 1; p <= instrument.lastFret; p++) {
                int sum = sumFrom(event, before, p);
                if (sum == NONE) {
                    continue;
                }
                if (leastSum == NONE || sum < leastSum) {
                    leastSum = sum;
                    leastWays = waysAt(event, p);
                } else if (sum == leastSum) {
                    leastWays = atMostTies((long) leastWays + waysAt(event, p));
                }
            }
        }

        private int firstBest(int event, int before) {
            int best = NONE;
            int bestSum = NONE;
            for (int p = instrument.capoFret + 1; p <= instrument.lastFret; p++) {
                int sum = sumFrom(event, before, p);
                if (sum != NONE && (best == NONE || sum < bestSum)) {
                    best = p;
                    bestSum = sum;
                }
            }
            return best;
        }

        private int sumFrom(int event, int before, int position) {
            int rest = isCell(event, position) ? sums[event * POSITIONS + position] : NONE;
            if (rest == NONE || before == NONE) {
                return rest;
            }
            return rest + weights[MOVE] * Math.abs(position - before);
        }

        private int waysAt(int event, int position) {
            return isCell(event, position) ? ways[event * POSITIONS + position] : 0;
        }

        private static boolean isCell(int event, int position) {
            return event >= 0 && event < MOST_EVENTS && position >= 0 && position < POSITIONS;
        }

        private static int atMostTies(long ways) {
            return ways > MOST_TIES ? MOST_TIES : (int) ways;
        }
    }

    private static final class Tape {
        private final int[] row = new int[MOST_SIGNS];
        int size = 0;

        boolean add(int sign) {
            if (size >= MOST_SIGNS) {
                return false;
            }
            row[size] = sign;
            size++;
            return true;
        }

        int signAt(int i) {
            return i >= 0 && i < size ? row[i] : NONE;
        }
    }

    private static final class TabWriter {
        private final Instrument instrument;
        private final Tune tune;
        private final Plan plan;
        private final Tape tape;
        private final int[] widths = new int[MOST_EVENTS];

        TabWriter(Instrument instrument, Tune tune, Plan plan, Tape tape) {
            this.instrument = instrument;
            this.tune = tune;
            this.plan = plan;
            this.tape = tape;
        }

        void writeTab() {
            tape.size = 0;
            for (int e = 0; e < tune.events; e++) {
                widths[e] = longestNumber(e);
            }
            for (int s = instrument.strings - 1; s >= 0; s--) {
                writeLine(s);
            }
        }

        private void writeLine(int string) {
            tape.add(BAR);
            for (int e = 0; e < tune.events; e++) {
                tape.add(DASH);
                int written = writeNumber(fretsBehindCapo(e, string));
                for (int i = written; i < widths[e]; i++) {
                    tape.add(DASH);
                }
            }
            tape.add(DASH);
            tape.add(BAR);
            tape.add(LINE_END);
        }

        private int writeNumber(int number) {
            int length = lengthOf(number);
            if (length > 1) {
                tape.add(ZERO + number / 10);
            }
            if (length > 0) {
                tape.add(ZERO + number % 10);
            }
            return length;
        }

        private int longestNumber(int event) {
            int longest = 0;
            for (int s = 0; s < instrument.strings; s++) {
                longest = Math.max(longest, lengthOf(fretsBehindCapo(event, s)));
            }
            return longest;
        }

        private static int lengthOf(int number) {
            if (number == NONE) {
                return 0;
            }
            return number < 10 ? 1 : 2;
        }

        private int fretsBehindCapo(int event, int string) {
            if (!plan.hasEvent(event)) {
                return NONE;
            }
            int size = tune.sizeOf(event);
            for (int i = 0; i < size; i++) {
                if (StringRow.stringIn(plan.strings[event], i) == string) {
                    return instrument.fretOf(string, tune.pitchOf(event, i)) - instrument.capoFret;
                }
            }
            return NONE;
        }
    }

    /**
     * Reads the tape as a tab. The faults are looked for kind by kind, in the order of their
     * numbers, and each kind may count on what the ones ahead of it have ruled out.
     */
    private static final class TabReader {
        private final Instrument instrument;
        private final Tune tune;
        private final Tape tape;

        /** Signs of a line with its end. */
        private int lineLength = 0;
        /** For each string the pitch that begins in the column loaded last, or NONE. */
        private final int[] columnPitches = new int[MOST_STRINGS];
        int faultPlace = NONE;

        TabReader(Instrument instrument, Tune tune, Tape tape) {
            this.instrument = instrument;
            this.tune = tune;
            this.tape = tape;
        }

        /** The number of the fault that counts, 0 for none; its place is kept. */
        int findFault() {
            faultPlace = wrongSign();
            if (faultPlace != NONE) {
                return 1;
            }
            faultPlace = wrongNumber();
            if (faultPlace != NONE) {
                return 2;
            }
            faultPlace = shiftedNumber();
            if (faultPlace != NONE) {
                return 3;
            }
            faultPlace = wrongEvent();
            if (faultPlace != NONE) {
                return 4;
            }
            faultPlace = surplusEvent();
            return faultPlace != NONE ? 5 : 0;
        }

        /** To be called only behind a findFault() that found none. */
        void takeEvents() {
            tune.events = 0;
            for (int c = 1; c < lineLength; c++) {
                loadColumn(c);
                if (lowestString() != NONE && tune.addEvent()) {
                    takePitches();
                }
            }
        }

        private void takePitches() {
            for (int s = 0; s < instrument.strings; s++) {
                if (columnPitches[s] != NONE) {
                    tune.addPitch(columnPitches[s], s);
                }
            }
        }

        private int wrongSign() {
            int wrong = measureFirstLine();
            if (wrong != NONE) {
                return wrong;
            }
            for (int s = instrument.strings - 2; s >= 0; s--) {
                for (int c = 0; c < lineLength; c++) {
                    if (!fitsColumn(signIn(s, c), c)) {
                        return placeOf(s, c);
                    }
                }
            }
            int end = instrument.strings * lineLength;
            return tape.size > end ? end : NONE;
        }

        private int measureFirstLine() {
            if (tape.signAt(0) != BAR) {
                return 0;
            }
            int i = 1;
            while (i < tape.size && isInner(tape.signAt(i))) {
                i++;
            }
            if (tape.signAt(i) != BAR) {
                return i;
            }
            if (tape.signAt(i + 1) != LINE_END) {
                return i + 1;
            }
            lineLength = i + 2;
            return NONE;
        }

        private boolean fitsColumn(int sign, int column) {
            if (column == lineLength - 1) {
                return sign == LINE_END;
            }
            if (column == 0 || column == lineLength - 2) {
                return sign == BAR;
            }
            return isInner(sign);
        }

        private int wrongNumber() {
            for (int s = instrument.strings - 1; s >= 0; s--) {
                for (int c = 1; c < lineLength; c++) {
                    if (beginsNumber(s, c) && !isFretNumber(s, c)) {
                        return placeOf(s, c);
                    }
                }
            }
            return NONE;
        }

        private boolean isFretNumber(int string, int column) {
            if (!isDigit(signIn(string, column + 1))) {
                return instrument.capoFret + numberIn(string, column) <= instrument.lastFret;
            }
            return signIn(string, column) != ZERO
                    && !isDigit(signIn(string, column + 2))
                    && instrument.capoFret + numberIn(string, column) <= instrument.lastFret;
        }

        private int shiftedNumber() {
            for (int s = instrument.strings - 1; s >= 0; s--) {
                for (int c = 1; c < lineLength; c++) {
                    if (beginsNumber(s, c) && hasSecondDigit(c)) {
                        return placeOf(s, c);
                    }
                }
            }
            return NONE;
        }

        private boolean hasSecondDigit(int column) {
            for (int s = 0; s < instrument.strings; s++) {
                if (isDigit(signIn(s, column)) && !beginsNumber(s, column)) {
                    return true;
                }
            }
            return false;
        }

        private int wrongEvent() {
            int first = NONE;
            for (int c = 1; c < lineLength; c++) {
                loadColumn(c);
                if (countPitches() > MOST_PITCHES || hasPitchTwice()) {
                    int place = placeOf(lowestString(), c);
                    // A later column comes first on the tape if its lowest string is a higher one.
                    if (first == NONE || place < first) {
                        first = place;
                    }
                }
            }
            return first;
        }

        private int surplusEvent() {
            int events = 0;
            for (int c = 1; c < lineLength; c++) {
                loadColumn(c);
                if (lowestString() != NONE) {
                    events++;
                }
                if (events > MOST_EVENTS) {
                    return placeOf(lowestString(), c);
                }
            }
            return NONE;
        }

        private void loadColumn(int column) {
            for (int s = 0; s < instrument.strings; s++) {
                columnPitches[s] = NONE;
                if (beginsNumber(s, column)) {
                    columnPitches[s] = instrument.pitchBehindCapo(s, numberIn(s, column));
                }
            }
        }

        private int countPitches() {
            int sum = 0;
            for (int s = 0; s < instrument.strings; s++) {
                if (columnPitches[s] != NONE) {
                    sum++;
                }
            }
            return sum;
        }

        private boolean hasPitchTwice() {
            for (int s = 1; s < instrument.strings; s++) {
                for (int lower = 0; lower < s; lower++) {
                    if (columnPitches[s] != NONE && columnPitches[s] == columnPitches[lower]) {
                        return true;
                    }
                }
            }
            return false;
        }

        private int lowestString() {
            for (int s = 0; s < instrument.strings; s++) {
                if (columnPitches[s] != NONE) {
                    return s;
                }
            }
            return NONE;
        }

        /** Of a longer number the first two digits: such a one is a fault by its length. */
        private int numberIn(int string, int column) {
            int first = signIn(string, column) - ZERO;
            int next = signIn(string, column + 1);
            return isDigit(next) ? first * 10 + next - ZERO : first;
        }

        private boolean beginsNumber(int string, int column) {
            return isDigit(signIn(string, column)) && !isDigit(signIn(string, column - 1));
        }

        private int signIn(int string, int column) {
            return tape.signAt(placeOf(string, column));
        }

        private int placeOf(int string, int column) {
            return (instrument.strings - 1 - string) * lineLength + column;
        }

        private static boolean isInner(int sign) {
            return sign == DASH || isDigit(sign);
        }

        private static boolean isDigit(int sign) {
            return sign >= ZERO && sign <= NINE;
        }
    }
}
