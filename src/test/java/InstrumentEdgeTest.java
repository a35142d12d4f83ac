/** The edges that promises 1 to 6, 11 and 14 and their terms name, sentence by sentence. */
public final class InstrumentEdgeTest {
    private static final int MIN = Integer.MIN_VALUE, MAX = Integer.MAX_VALUE;
    private static final Check check = new Check();

    public static void main(String[] args) {
        newObjectHasNothing();
        newObjectsFirstValues();
        stringPitchBounds();
        stringsSevenAtMost();
        stringOnlyWithoutEvents();
        stringOrderOfRefusals();
        clearAnswersHowManyEvents();
        clearTakesStringsAndEvents();
        clearLeavesTheRest();
        neckBounds();
        neckAboveCapo();
        capoBounds();
        weightKinds();
        weightBounds();
        toldBounds();
        toldEmptyAndFull();
        fretStringBounds();
        fretsFromCapoToNeck();
        fretOfAnyNumber();
        lastCallOfAnObject();
        check.end("InstrumentEdgeTest");
    }

    private static void newObjectHasNothing() {
        check.sentence("1: No STRINGS, no EVENTS, an empty TAPE");
        FretHands x = new FretHands();
        check.due("told(0)", x.told(0), 0);
        check.due("fret(0, 40)", x.fret(0, 40), -2);
        check.due("told(3)", x.told(3), 0);
        check.due("at(0, 0)", x.at(0, 0), -3);
        check.due("bound(0, 0)", x.bound(0, 0), -3);
        check.due("grips(0)", x.grips(0), -3);
        check.due("told(4)", x.told(4), 0);
        check.due("tape(0)", x.tape(0), -1);
        check.due("empty()", x.empty(), 0);
        check.due("clear()", x.clear(), 0);
        check.due("the first string", x.string(40), 1);
        check.due("the first event", x.event(40), 0);
        check.due("the first sign", x.sign(40), 1);
    }

    private static void newObjectsFirstValues() {
        check.sentence("Terms: NECK at first 12, CAPO at first 0, WEIGHTS at first 1");
        FretHands x = new FretHands();
        check.due("told(1)", x.told(1), 12);
        check.due("told(2)", x.told(2), 0);
        check.due("neck(5)", x.neck(5), 12);
        check.due("capo(3)", x.capo(3), 0);
        for (int kind = 0; kind < 4; kind++) {
            check.due("weight(" + kind + ", 9)", x.weight(kind, 9), 1);
        }
        FretHands other = new FretHands();
        check.due("another object's NECK", other.told(1), 12);
        check.due("another object's CAPO", other.told(2), 0);
        check.due("another object's WEIGHT", other.weight(0, 1), 1);
    }

    private static void stringPitchBounds() {
        check.sentence("2: OUTSIDE (a STRING's PITCH is 0 to 99)");
        FretHands x = new FretHands();
        int[] outside = {-1, 100, 123, MIN, MAX};
        for (int pitch : outside) {
            check.due("string(" + pitch + ")", x.string(pitch), -2);
            check.due("told(0) behind it", x.told(0), 0);
        }
        check.due("string(0)", x.string(0), 1);
        check.due("string(99)", x.string(99), 2);
        check.due("fret(0, 0)", x.fret(0, 0), 0);
        check.due("fret(1, 99)", x.fret(1, 99), 0);
    }

    private static void stringsSevenAtMost() {
        check.sentence("2: how many there are; ROOM (7 STRINGS at most)");
        FretHands x = new FretHands();
        for (int i = 1; i <= 7; i++) {
            check.due("string " + i, x.string(39 + i), i);
        }
        check.due("the eighth", x.string(47), -5);
        check.due("told(0)", x.told(0), 7);
        for (int s = 0; s < 7; s++) {
            check.due("fret(" + s + ", 50)", x.fret(s, 50), 10 - s);
        }
        check.due("fret(7, 50)", x.fret(7, 50), -2);
        x.clear();
        check.due("a string behind clear()", x.string(40), 1);
    }

    private static void stringOnlyWithoutEvents() {
        check.sentence("2: STATE: there are EVENTS");
        FretHands x = Check.withStrings(40);
        x.event(45);
        check.due("with one event", x.string(50), -4);
        Check.events(x, 39, 45);
        check.due("with forty events", x.string(50), -4);
        check.due("told(0)", x.told(0), 1);
        for (int left = 39; left >= 1; left--) {
            x.drop();
        }
        check.due("with one event left", x.string(50), -4);
        x.drop();
        check.due("behind the last drop()", x.string(50), 2);
        x.event(45);
        check.due("read() of no events", Check.read(x, "||\n||\n"), 0);
        check.due("behind that read()", x.string(60), 3);
        check.due("read() of one event", Check.read(x, "|1|\n|-|\n|-|\n"), 1);
        check.due("behind that read()", x.string(70), -4);
        x.clear();
        check.due("behind clear()", x.string(70), 1);
    }

    private static void stringOrderOfRefusals() {
        check.sentence("2: OUTSIDE, then STATE, then ROOM");
        FretHands x = Check.withStrings(40, 41, 42, 43, 44, 45, 46);
        check.due("OUTSIDE ahead of ROOM", x.string(100), -2);
        x.event(45);
        check.due("OUTSIDE ahead of STATE and ROOM", x.string(-1), -2);
        check.due("STATE ahead of ROOM", x.string(40), -4);
        x.drop();
        check.due("ROOM alone", x.string(40), -5);
    }

    private static void clearAnswersHowManyEvents() {
        check.sentence("3: how many EVENTS there were");
        FretHands x = new FretHands();
        check.due("of a new object", x.clear(), 0);
        x.string(40);
        check.due("of strings alone", x.clear(), 0);
        x.event(40);
        check.due("of one event", x.clear(), 1);
        Check.events(x, 40, 40);
        check.due("of forty events", x.clear(), 40);
        check.due("of what clear() left", x.clear(), 0);
    }

    private static void clearTakesStringsAndEvents() {
        check.sentence("3: No STRINGS, no EVENTS");
        FretHands x = Check.withStrings(40, 41, 42, 43, 44, 45, 46);
        Check.events(x, 40, 50);
        x.bind(0, 0, 3);
        x.clear();
        check.due("told(0)", x.told(0), 0);
        check.due("told(3)", x.told(3), 0);
        check.due("fret(0, 45)", x.fret(0, 45), -2);
        check.due("at(0, 0)", x.at(0, 0), -3);
        check.due("pitch(51)", x.pitch(51), -4);
        check.due("drop()", x.drop(), -4);
        check.due("read()", x.read(), -4);
        check.due("event(60)", x.event(60), 0);
        check.due("its bond", x.bound(0, 0), -1);
        check.due("bind(0, 0, 0) without strings", x.bind(0, 0, 0), -2);
    }

    private static void clearLeavesTheRest() {
        check.sentence("3: THE TAPE stays (and NECK, CAPO, WEIGHTS and the place of a FAULT)");
        FretHands x = Check.withStrings(40);
        x.neck(20);
        x.capo(19);
        for (int kind = 0; kind < 4; kind++) {
            x.weight(kind, 5 + kind);
        }
        check.due("a FAULT", Check.read(x, "|-"), -11);
        Check.type(x, "ab");
        x.clear();
        check.due("told(4)", x.told(4), 2);
        check.due("tape(0)", x.tape(0), 'a');
        check.due("tape(1)", x.tape(1), 'b');
        check.due("told(1)", x.told(1), 20);
        check.due("told(2)", x.told(2), 19);
        check.due("place()", x.place(), 2);
        for (int kind = 0; kind < 4; kind++) {
            check.due("weight " + kind, x.weight(kind, 0), 5 + kind);
        }
    }

    private static void neckBounds() {
        check.sentence("4: what it was. OUTSIDE (NECK is 1 to 24)");
        FretHands x = new FretHands();
        int[] outside = {0, 25, -1, MIN, MAX};
        for (int n : outside) {
            check.due("neck(" + n + ")", x.neck(n), -2);
            check.due("told(1) behind it", x.told(1), 12);
        }
        check.due("neck(1)", x.neck(1), 12);
        check.due("neck(24)", x.neck(24), 1);
        check.due("neck(24) again", x.neck(24), 24);
        check.due("told(1)", x.told(1), 24);
    }

    private static void neckAboveCapo() {
        check.sentence("4: OUTSIDE (also not above CAPO)");
        for (int capo = 1; capo <= 23; capo++) {
            FretHands x = new FretHands();
            x.neck(24);
            x.capo(capo);
            check.due("neck() below CAPO " + capo, x.neck(capo - 1), -2);
            check.due("neck() at CAPO " + capo, x.neck(capo), -2);
            check.due("told(1)", x.told(1), 24);
            check.due("neck() above CAPO " + capo, x.neck(capo + 1), 24);
            check.due("told(1)", x.told(1), capo + 1);
            check.due("told(2)", x.told(2), capo);
        }
    }

    private static void capoBounds() {
        check.sentence("5: what it was. OUTSIDE (CAPO is 0 to NECK - 1)");
        for (int neck = 1; neck <= 24; neck++) {
            FretHands x = new FretHands();
            x.neck(neck);
            int[] outside = {-1, neck, neck + 1, MIN, MAX};
            for (int n : outside) {
                check.due("capo(" + n + ") with NECK " + neck, x.capo(n), -2);
                check.due("told(2) behind it", x.told(2), 0);
            }
            check.due("capo() of NECK - 1", x.capo(neck - 1), 0);
            check.due("told(2)", x.told(2), neck - 1);
            check.due("capo(0)", x.capo(0), neck - 1);
            check.due("told(2)", x.told(2), 0);
        }
    }

    private static void weightKinds() {
        check.sentence("6: OUTSIDE (the kinds are 0 to 3)");
        FretHands x = new FretHands();
        int[] outside = {-1, 4, MIN, MAX};
        for (int kind : outside) {
            check.due("weight(" + kind + ", 1)", x.weight(kind, 1), -2);
        }
        for (int kind = 0; kind < 4; kind++) {
            check.due("weight(" + kind + ", " + (kind + 7) + ")", x.weight(kind, kind + 7), 1);
        }
        for (int kind = 0; kind < 4; kind++) {
            check.due("weight(" + kind + ", 1)", x.weight(kind, 1), kind + 7);
        }
    }

    private static void weightBounds() {
        check.sentence("6: A WEIGHT: what it was. OUTSIDE (each is 0 to 20)");
        FretHands x = new FretHands();
        int[] outside = {-1, 21, MIN, MAX};
        for (int kind = 0; kind < 4; kind++) {
            for (int w : outside) {
                check.due("weight(" + kind + ", " + w + ")", x.weight(kind, w), -2);
            }
            check.due("weight(" + kind + ", 0)", x.weight(kind, 0), 1);
            check.due("weight(" + kind + ", 20)", x.weight(kind, 20), 0);
            check.due("weight(" + kind + ", 20) again", x.weight(kind, 20), 20);
        }
    }

    private static void toldBounds() {
        check.sentence("11: OUTSIDE (what is 0 to 4)");
        FretHands x = new FretHands();
        int[] outside = {-1, 5, MIN, MAX};
        for (int what : outside) {
            check.due("told(" + what + ")", x.told(what), -2);
        }
        check.due("told(4)", x.told(4), 0);
    }

    private static void toldEmptyAndFull() {
        check.sentence("11: STRINGS, NECK, CAPO, EVENTS, signs on THE TAPE");
        FretHands x = Check.withStrings(40, 40, 40, 40, 40, 40, 40);
        x.neck(24);
        x.capo(23);
        Check.events(x, 40, 64);
        x.sign(1);
        int[] full = {7, 24, 23, 40, 1};
        for (int what = 0; what < 5; what++) {
            check.due("told(" + what + ") of the full", x.told(what), full[what]);
        }
        x.clear();
        x.capo(0);
        x.neck(1);
        x.empty();
        int[] empty = {0, 1, 0, 0, 0};
        for (int what = 0; what < 5; what++) {
            check.due("told(" + what + ") of the empty", x.told(what), empty[what]);
        }
    }

    private static void fretStringBounds() {
        check.sentence("14: OUTSIDE: there is no such STRING");
        FretHands x = new FretHands();
        int[] never = {-1, 7, MIN, MAX};
        for (int strings = 0; strings <= 7; strings++) {
            for (int s : never) {
                check.due("fret(" + s + ", 45) of " + strings, x.fret(s, 45), -2);
            }
            check.due("the first that there is not, of " + strings, x.fret(strings, 45), -2);
            if (strings > 0) {
                check.due("the last of " + strings, x.fret(strings - 1, 45), 5);
            }
            x.string(40);
        }
        check.due("OUTSIDE also where the PITCH lies nowhere", x.fret(7, -1), -2);
    }

    private static void fretsFromCapoToNeck() {
        check.sentence("14: The FRET at which a PITCH lies; NONE: it does not (from CAPO to NECK)");
        int[][] ends = {{1, 0}, {12, 0}, {12, 5}, {12, 11}, {24, 0}, {24, 23}};
        for (int[] end : ends) {
            FretHands x = Check.withStrings(0, 99);
            x.neck(end[0]);
            x.capo(end[1]);
            String with = " with NECK " + end[0] + " and CAPO " + end[1];
            for (int s = 0; s < 2; s++) {
                int open = s == 0 ? 0 : 99;
                check.due("below CAPO" + with, x.fret(s, open + end[1] - 1), -1);
                for (int f = end[1]; f <= end[0]; f++) {
                    check.due("FRET " + f + with, x.fret(s, open + f), f);
                }
                check.due("behind NECK" + with, x.fret(s, open + end[0] + 1), -1);
            }
        }
    }

    private static void fretOfAnyNumber() {
        check.sentence("14: NONE: it does not");
        FretHands x = Check.withStrings(0, 1, 99);
        int[] pitches = {-1, 124, MIN, MIN + 1, MAX, MAX - 1};
        for (int s = 0; s < 3; s++) {
            for (int pitch : pitches) {
                check.due("fret(" + s + ", " + pitch + ")", x.fret(s, pitch), -1);
            }
        }
    }

    private static void lastCallOfAnObject() {
        check.sentence("What it is: at most 512 calls after it has been made");
        FretHands x = new FretHands();
        for (int call = 1; call < 512; call++) {
            check.due("sign() at call " + call, x.sign(1 + call % 127), call);
        }
        check.due("told(4) at call 512", x.told(4), 511);
    }
}
