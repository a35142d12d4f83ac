/** The edges that promises 15 and 16 and the terms GRIP, POSITION and COST name, sentence by sentence. */
public final class GripEdgeTest {
    private static final int MIN = Integer.MIN_VALUE, MAX = Integer.MAX_VALUE;
    private static final int MOVE = 0, HIGH = 1, REACH = 2, LOOSE = 3;
    private static final Check check = new Check();

    public static void main(String[] args) {
        gripsOfUnknownEvents();
        eventsWithoutGrips();
        oneGripAndVeryMany();
        positionsFromCapoToNeck();
        fingersFromPositionOn();
        fingersThreeApartAtMost();
        openStringsTakeNoFinger();
        fretsThatAreThere();
        stringsAllDifferent();
        boundPitches();
        orderByPositionThenStrings();
        costOfOpenStrings();
        costOfHighFrets();
        costOfReach();
        costWithoutMove();
        gripOfUnknownEvents();
        gripWhatBounds();
        gripNumberBounds();
        gripOfPitchesThatItHas();
        check.end("GripEdgeTest");
    }

    private static void dueGrip(FretHands x, int event, int k, int... want) {
        for (int what = 0; what < want.length; what++) {
            check.due("grip(" + event + ", " + k + ", " + what + ")", x.grip(event, k, what), want[what]);
        }
    }

    private static FretHands onNeck(int neck, int capo, int... strings) {
        FretHands x = Check.withStrings(strings);
        x.neck(neck);
        x.capo(capo);
        return x;
    }

    private static void gripsOfUnknownEvents() {
        check.sentence("15: UNKNOWN");
        FretHands x = Check.withStrings(40);
        check.due("grips(0) without events", x.grips(0), -3);
        Check.events(x, 40, 41);
        int[] unknown = {-1, 40, MIN, MAX};
        for (int event : unknown) {
            check.due("grips(" + event + ")", x.grips(event), -3);
        }
        check.due("grips(0)", x.grips(0), 1);
        check.due("grips(39)", x.grips(39), 1);
        x.drop();
        check.due("grips(39) behind drop()", x.grips(39), -3);
    }

    private static void eventsWithoutGrips() {
        check.sentence("15: How many GRIPS: none");
        FretHands none = new FretHands();
        none.event(40);
        check.due("without strings", none.grips(0), 0);
        FretHands x = Check.withStrings(40, 60);
        Check.chord(x, 39);
        Check.chord(x, 73);
        Check.chord(x, 53);
        Check.chord(x, 45, 60, 70);
        Check.chord(x, 45, 46);
        check.due("a PITCH below every STRING", x.grips(0), 0);
        check.due("a PITCH behind NECK on every STRING", x.grips(1), 0);
        check.due("a PITCH between two STRINGS", x.grips(2), 0);
        check.due("more PITCHES than STRINGS", x.grips(3), 0);
        check.due("two PITCHES for one STRING", x.grips(4), 0);
    }

    private static void oneGripAndVeryMany() {
        check.sentence("15: How many GRIPS: one, and very many");
        FretHands x = onNeck(1, 0, 40);
        x.event(41);
        check.due("one", x.grips(0), 1);
        dueGrip(x, 0, 0, 1, 0, -1, -1, -1, 1);
        FretHands y = Check.withStrings(40, 40, 40, 40, 40, 40, 40);
        Check.chord(y, 40, 45, 46, 47);
        // Four of seven strings in 840 ways, each from positions 4 (REACH for fret 7) and 5.
        check.due("every way of four on seven, twice", y.grips(0), 1680);
        dueGrip(y, 0, 0, 4, 0, 1, 2, 3, 1 + 5 + 6 + 7 + 1);
        dueGrip(y, 0, 839, 4, 6, 5, 4, 3, 20);
        dueGrip(y, 0, 840, 5, 0, 1, 2, 3, 19);
        dueGrip(y, 0, 1679, 5, 6, 5, 4, 3, 19);
        dueGrip(y, 0, 1680, -1, -1, -1, -1, -1, -1);
    }

    private static void positionsFromCapoToNeck() {
        check.sentence("Terms: a POSITION p (a FRET behind CAPO, up to NECK)");
        int[][] ends = {{1, 0}, {2, 1}, {12, 0}, {12, 11}, {24, 0}, {24, 5}, {24, 23}};
        for (int[] end : ends) {
            FretHands x = onNeck(end[0], end[1], 40);
            x.event(40 + end[1]);
            int count = end[0] - end[1];
            check.due("positions behind CAPO " + end[1] + " to NECK " + end[0], x.grips(0), count);
            dueGrip(x, 0, 0, end[1] + 1, 0);
            dueGrip(x, 0, count - 1, end[0], 0);
            dueGrip(x, 0, count, -1, -1);
        }
    }

    private static void fingersFromPositionOn() {
        check.sentence("Terms: FRETS that take a finger are p, p + 1, p + 2 or p + 3");
        int[][] ends = {{12, 0}, {12, 7}, {24, 0}, {24, 20}};
        for (int[] end : ends) {
            FretHands x = onNeck(end[0], end[1], 40);
            for (int fret = end[1] + 1; fret <= end[0]; fret++) {
                int event = x.event(40 + fret);
                int first = Math.max(end[1] + 1, fret - 3);
                check.due("positions for FRET " + fret, x.grips(event), fret - first + 1);
                check.due("the first", x.grip(event, 0, 0), first);
                check.due("the last", x.grip(event, fret - first, 0), fret);
                check.due("none behind it", x.grip(event, fret - first + 1, 0), -1);
                x.drop();
            }
        }
    }

    private static void fingersThreeApartAtMost() {
        check.sentence("Terms: p + 3 is the last FRET that a GRIP's fingers take");
        FretHands x = Check.withStrings(40, 60, 80);
        for (int apart = 0; apart <= 5; apart++) {
            int event = Check.chord(x, 45, 65 + apart);
            check.due("two that are " + apart + " apart", x.grips(event), Math.max(0, 4 - apart));
            check.due("from", x.grip(event, 0, 0), apart <= 3 ? 2 + apart : -1);
        }
        check.due("three of which two are 4 apart", x.grips(Check.chord(x, 45, 67, 89)), 0);
        check.due("three that are 3 apart", x.grips(Check.chord(x, 45, 66, 88)), 1);
        check.due("the higher FRET on the first STRING", x.grips(Check.chord(x, 48, 65)), 1);
        check.due("the higher one 4 apart", x.grips(Check.chord(x, 49, 65)), 0);
    }

    private static void openStringsTakeNoFinger() {
        check.sentence("Terms: that one is OPEN, the others take a finger");
        FretHands x = onNeck(24, 0, 40, 60);
        Check.chord(x, 40, 84);
        check.due("OPEN and FRET 24", x.grips(0), 4);
        dueGrip(x, 0, 0, 21, 0, 1);
        dueGrip(x, 0, 3, 24, 0, 1);
        x.capo(3);
        Check.chord(x, 43, 84);
        check.due("FRET 0 is not there with CAPO 3", x.grips(0), 0);
        check.due("FRET 3 is OPEN with CAPO 3", x.grips(1), 4);
        x.capo(2);
        check.due("FRET 3 takes a finger with CAPO 2", x.grips(1), 0);
        Check.chord(x, 42, 62);
        check.due("two OPEN ones from every position", x.grips(2), 22);
        dueGrip(x, 2, 0, 3, 0, 1, -1, -1, 2);
        dueGrip(x, 2, 21, 24, 0, 1, -1, -1, 2);
    }

    private static void fretsThatAreThere() {
        check.sentence("Terms: where it lies on a FRET that is there");
        FretHands x = onNeck(9, 4, 40, 60);
        Check.chord(x, 49, 67);
        Check.chord(x, 50, 67);
        Check.chord(x, 44, 67);
        Check.chord(x, 43, 67);
        check.due("at NECK", x.grips(0), 2);
        check.due("behind NECK", x.grips(1), 0);
        check.due("at CAPO", x.grips(2), 3);
        check.due("below CAPO", x.grips(3), 0);
        x.neck(10);
        check.due("at NECK that is one longer", x.grips(1), 1);
        x.capo(3);
        check.due("at CAPO that is one lower: now it is FRET 4 that takes a finger", x.grips(2), 1);
        check.due("at CAPO that is one lower", x.grips(3), 4);
    }

    private static void stringsAllDifferent() {
        check.sentence("Terms: for each PITCH a STRING, all different");
        FretHands x = Check.withStrings(40, 40);
        Check.chord(x, 45, 46);
        check.due("two on two", x.grips(0), 6);
        dueGrip(x, 0, 0, 3, 0, 1, -1, -1, 12);
        dueGrip(x, 0, 1, 3, 1, 0, -1, -1, 12);
        x.pitch(47);
        check.due("three on two", x.grips(0), 0);
        FretHands y = Check.withStrings(40, 40, 40, 40);
        Check.chord(y, 44, 43, 42, 41);
        check.due("four on four", y.grips(0), 24);
        dueGrip(y, 0, 0, 1, 0, 1, 2, 3);
        dueGrip(y, 0, 23, 1, 3, 2, 1, 0);
    }

    private static void boundPitches() {
        check.sentence("Terms: a PITCH that is BOUND lies on its STRING");
        FretHands x = Check.withStrings(40, 40, 40, 40, 40, 40, 60);
        Check.chord(x, 41, 42, 43, 44);
        check.due("none BOUND: six strings", x.grips(0), 360);
        x.bind(0, 3, 5);
        check.due("the last PITCH BOUND to the last of them", x.grips(0), 60);
        for (int k = 0; k < 60; k += 59) {
            check.due("grip(0, " + k + ", 4)", x.grip(0, k, 4), 5);
        }
        x.bind(0, 0, 0);
        x.bind(0, 1, 2);
        x.bind(0, 2, 1);
        check.due("all BOUND", x.grips(0), 1);
        dueGrip(x, 0, 0, 1, 0, 2, 1, 5);
        x.bind(0, 1, 0);
        check.due("two BOUND to one STRING", x.grips(0), 0);
        x.bind(0, 1, 6);
        check.due("BOUND to a STRING on which it does not lie", x.grips(0), 0);
        x.bind(0, 1, -1);
        check.due("BOUND to none again", x.grips(0), 3);
    }

    private static void orderByPositionThenStrings() {
        check.sentence("Terms: in order by POSITION, then by the STRING of its first PITCH, then of its second one");
        FretHands x = Check.withStrings(40, 40, 40, 40);
        Check.chord(x, 44, 42, 43);
        int before = -1;
        check.due("two positions, 24 ways each", x.grips(0), 48);
        for (int k = 0; k < 48; k++) {
            int place = x.grip(0, k, 0);
            for (int what = 1; what <= 3; what++) {
                place = place * 10 + x.grip(0, k, what);
            }
            check.due("grip " + k + " is behind the one before it", place > before ? 1 : 0, 1);
            before = place;
        }
        dueGrip(x, 0, 0, 1, 0, 1, 2, -1, 10);
        dueGrip(x, 0, 1, 1, 0, 1, 3, -1, 10);
        dueGrip(x, 0, 2, 1, 0, 2, 1, -1, 10);
        dueGrip(x, 0, 6, 1, 1, 0, 2, -1, 10);
        dueGrip(x, 0, 24, 2, 0, 1, 2, -1, 9);
    }

    private static void costOfOpenStrings() {
        check.sentence("Terms: COST: for each PITCH that is OPEN LOOSE");
        int[] weights = {0, 1, 20};
        for (int loose : weights) {
            FretHands x = onNeck(12, 5, 40, 50, 60, 70);
            x.weight(HIGH, 20);
            x.weight(REACH, 20);
            x.weight(LOOSE, loose);
            for (int open = 1; open <= 4; open++) {
                int event = x.event(45);
                for (int i = 1; i < open; i++) {
                    x.pitch(45 + 10 * i);
                }
                check.due(open + " OPEN ones with LOOSE " + loose, x.grip(event, 0, 5), open * loose);
                check.due("from the last position", x.grip(event, 6, 5), open * loose);
            }
        }
    }

    private static void costOfHighFrets() {
        check.sentence("Terms: COST: HIGH times how many FRETS it lies behind CAPO");
        int[] weights = {0, 1, 20};
        for (int high : weights) {
            for (int capo = 0; capo <= 23; capo += 23) {
                FretHands x = onNeck(24, capo, 40);
                x.weight(HIGH, high);
                x.weight(LOOSE, 13);
                x.event(64);
                x.event(40 + capo + 1);
                int last = x.grips(0) - 1;
                check.due("FRET 24 with CAPO " + capo, x.grip(0, last, 5), high * (24 - capo));
                check.due("the first FRET behind CAPO " + capo, x.grip(1, 0, 5), high);
            }
        }
        FretHands x = onNeck(24, 0, 40, 40, 40, 40);
        x.weight(HIGH, 20);
        Check.chord(x, 61, 62, 63, 64);
        x.weight(REACH, 20);
        check.due("the dearest of four PITCHES", x.grip(0, 0, 5), 20 * (21 + 22 + 23 + 24) + 20);
    }

    private static void costOfReach() {
        check.sentence("Terms: COST: REACH if it is at p + 3");
        int[] weights = {0, 1, 20};
        for (int reach : weights) {
            FretHands x = onNeck(12, 0, 40, 50, 60, 70);
            x.weight(REACH, reach);
            x.event(48);
            int[] due = {8 + reach, 8, 8, 8};
            for (int k = 0; k < 4; k++) {
                dueGrip(x, 0, k, 5 + k, 0, -1, -1, -1, due[k]);
            }
            Check.chord(x, 48, 58, 68, 78);
            check.due("four at p + 3", x.grip(1, 0, 5), 32 + 4 * reach);
            check.due("four at p + 2", x.grip(1, 1, 5), 32);
            Check.chord(x, 48, 58, 60, 75);
            dueGrip(x, 2, 0, 5, 0, 1, 2, 3, 8 + 8 + 1 + 5 + 2 * reach);
            check.due("two at p + 3, one OPEN, one at p: no other", x.grips(2), 1);
            check.due("four at p + 3 again", x.grip(1, 0, 5), 32 + 4 * reach);
            check.due("one at p + 3, asked behind the four", x.grip(0, 0, 5), 8 + reach);
        }
        FretHands y = onNeck(12, 9, 40, 50);
        y.weight(REACH, 20);
        Check.chord(y, 49, 62);
        dueGrip(y, 0, 0, 10, 0, 1, -1, -1, 1 + 3);
        y.capo(8);
        y.drop();
        Check.chord(y, 48, 62);
        dueGrip(y, 0, 0, 9, 0, 1, -1, -1, 1 + 4 + 20);
    }

    private static void costWithoutMove() {
        check.sentence("Terms: the COST of a GRIP has no MOVE");
        FretHands x = Check.withStrings(40);
        x.event(45);
        x.event(52);
        x.weight(MOVE, 20);
        check.due("grip(1, 3, 5)", x.grip(1, 3, 5), 12);
        check.due("grip(0, 0, 5)", x.grip(0, 0, 5), 6);
    }

    private static void gripOfUnknownEvents() {
        check.sentence("16: OUTSIDE: what; UNKNOWN (ahead of it)");
        FretHands x = Check.withStrings(40);
        check.due("grip(0, 0, 0) without events", x.grip(0, 0, 0), -3);
        check.due("grip(0, 0, 6) without events", x.grip(0, 0, 6), -3);
        x.event(45);
        int[] unknown = {-1, 1, 40, MIN, MAX};
        for (int event : unknown) {
            check.due("grip(" + event + ", 0, 0)", x.grip(event, 0, 0), -3);
            check.due("grip(" + event + ", 0, -1)", x.grip(event, 0, -1), -3);
            check.due("grip(" + event + ", 0, 6)", x.grip(event, 0, 6), -3);
            check.due("grip(" + event + ", 99, 0)", x.grip(event, 99, 0), -3);
        }
    }

    private static void gripWhatBounds() {
        check.sentence("16: OUTSIDE: what (0 to 5)");
        FretHands x = Check.withStrings(40);
        x.event(45);
        x.event(90);
        int[] outside = {-1, 6, 7, MIN, MAX};
        for (int what : outside) {
            check.due("grip(0, 0, " + what + ")", x.grip(0, 0, what), -2);
            check.due("grip(0, 4, " + what + "): OUTSIDE, not NONE", x.grip(0, 4, what), -2);
            check.due("grip(1, 0, " + what + "): OUTSIDE, not NONE", x.grip(1, 0, what), -2);
        }
        check.due("grip(0, 0, 0)", x.grip(0, 0, 0), 2);
        check.due("grip(0, 0, 5)", x.grip(0, 0, 5), 6);
    }

    private static void gripNumberBounds() {
        check.sentence("16: GRIP k from 0 on. NONE: there is none such");
        FretHands x = Check.withStrings(40);
        x.event(45);
        x.event(90);
        int[] none = {-1, 4, 5, MIN, MAX};
        for (int what = 0; what <= 5; what++) {
            for (int k : none) {
                check.due("grip(0, " + k + ", " + what + ")", x.grip(0, k, what), -1);
            }
            check.due("grip(1, 0, " + what + ") of an EVENT without GRIPS", x.grip(1, 0, what), -1);
        }
        dueGrip(x, 0, 0, 2, 0, -1, -1, -1, 6);
        dueGrip(x, 0, 3, 5, 0, -1, -1, -1, 5);
    }

    private static void gripOfPitchesThatItHas() {
        check.sentence("16: NONE: no such PITCH");
        FretHands x = Check.withStrings(46, 45, 44, 43, 42, 41, 40);
        for (int size = 1; size <= 4; size++) {
            int event = x.event(41);
            x.bind(event, 0, 6);
            for (int i = 1; i < size; i++) {
                x.pitch(41 + i);
                x.bind(event, i, 6 - i);
            }
            check.due("one GRIP of " + size, x.grips(event), 1);
            for (int what = 1; what <= 4; what++) {
                check.due("grip(" + event + ", 0, " + what + ") of " + size,
                        x.grip(event, 0, what), what <= size ? 7 - what : -1);
            }
            check.due("its COST", x.grip(event, 0, 5), size);
        }
    }
}
