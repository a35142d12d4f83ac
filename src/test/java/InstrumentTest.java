/** Promises 1 to 6, 11 and 14: a new object, string, clear, neck, capo, weight, told, fret. */
public final class InstrumentTest {
    private static final Check check = new Check();

    public static void main(String[] args) {
        newObject();
        strings();
        clearing();
        necks();
        capos();
        weights();
        telling();
        frets();
        check.end("InstrumentTest");
    }

    private static void newObject() {
        FretHands x = new FretHands();
        check.due("new: told(0)", x.told(0), 0);
        check.due("new: told(1)", x.told(1), 12);
        check.due("new: told(2)", x.told(2), 0);
        check.due("new: told(3)", x.told(3), 0);
        check.due("new: told(4)", x.told(4), 0);
        check.due("new: place()", x.place(), -1);
        check.due("new: planned(0, 6)", x.planned(0, 6), -1);
        check.due("new: plan()", x.plan(), -4);
        check.due("new: ties()", x.ties(), -4);
        check.due("new: write()", x.write(), -4);
        check.due("new: read()", x.read(), -4);
        check.due("new: tape(0)", x.tape(0), -1);
    }

    private static void strings() {
        FretHands x = new FretHands();
        check.due("string(-1)", x.string(-1), -2);
        check.due("string(100)", x.string(100), -2);
        check.due("told(0) behind refused ones", x.told(0), 0);
        for (int i = 1; i <= 7; i++) {
            check.due("string " + i, x.string(i % 2 == 0 ? 0 : 99), i);
        }
        check.due("the eighth string", x.string(40), -5);
        check.due("the eighth string, wrong pitch", x.string(100), -2);
        check.due("told(0) with seven", x.told(0), 7);
        check.due("fret(0, 99)", x.fret(0, 99), 0);
        check.due("fret(1, 0)", x.fret(1, 0), 0);
        x.event(50);
        check.due("a string with events comes ahead of ROOM", x.string(40), -4);
        check.due("a wrong string with events", x.string(-1), -2);
        x.drop();
        check.due("a string without events again", x.string(40), -5);
        FretHands y = new FretHands();
        y.event(40);
        check.due("a string behind an event", y.string(40), -4);
        y.drop();
        check.due("a string behind its drop", y.string(40), 1);
    }

    private static void clearing() {
        FretHands x = Check.guitar();
        x.neck(20);
        x.capo(3);
        x.weight(1, 7);
        x.event(60);
        x.event(61);
        x.sign(65);
        check.due("clear()", x.clear(), 2);
        check.due("clear() leaves no strings", x.told(0), 0);
        check.due("clear() leaves no events", x.told(3), 0);
        check.due("clear() leaves NECK", x.told(1), 20);
        check.due("clear() leaves CAPO", x.told(2), 3);
        check.due("clear() leaves THE TAPE", x.told(4), 1);
        check.due("clear() leaves the sign", x.tape(0), 65);
        check.due("clear() leaves WEIGHTS", x.weight(1, 7), 7);
        check.due("clear() again", x.clear(), 0);
        check.due("a string behind clear()", x.string(30), 1);
        check.due("its fret", x.fret(0, 33), 3);
        check.due("no events behind clear()", x.at(0, 0), -3);
    }

    private static void necks() {
        FretHands x = new FretHands();
        check.due("neck(0)", x.neck(0), -2);
        check.due("neck(25)", x.neck(25), -2);
        check.due("neck(-1)", x.neck(-1), -2);
        check.due("neck(24)", x.neck(24), 12);
        check.due("neck(1)", x.neck(1), 24);
        check.due("neck(10)", x.neck(10), 1);
        check.due("capo(5)", x.capo(5), 0);
        check.due("neck(5) at CAPO", x.neck(5), -2);
        check.due("neck(4) below CAPO", x.neck(4), -2);
        check.due("neck(6)", x.neck(6), 10);
        check.due("told(1)", x.told(1), 6);
    }

    private static void capos() {
        FretHands x = new FretHands();
        check.due("capo(-1)", x.capo(-1), -2);
        check.due("capo(12) at NECK", x.capo(12), -2);
        check.due("capo(13)", x.capo(13), -2);
        check.due("capo(11)", x.capo(11), 0);
        check.due("capo(0)", x.capo(0), 11);
        x.neck(24);
        check.due("capo(23)", x.capo(23), 0);
        check.due("capo(24)", x.capo(24), -2);
        check.due("told(2)", x.told(2), 23);
    }

    private static void weights() {
        FretHands x = new FretHands();
        for (int kind = 0; kind < 4; kind++) {
            check.due("weight " + kind + " at first", x.weight(kind, 20 - kind), 1);
        }
        for (int kind = 0; kind < 4; kind++) {
            check.due("weight " + kind + " then", x.weight(kind, 0), 20 - kind);
            check.due("weight " + kind + " of -1", x.weight(kind, -1), -2);
            check.due("weight " + kind + " of 21", x.weight(kind, 21), -2);
            check.due("weight " + kind + " stays", x.weight(kind, 1), 0);
        }
        check.due("weight(-1, 1)", x.weight(-1, 1), -2);
        check.due("weight(4, 1)", x.weight(4, 1), -2);
    }

    private static void telling() {
        FretHands x = Check.withStrings(40, 45);
        x.neck(9);
        x.capo(4);
        Check.chord(x, 50, 51);
        Check.chord(x, 52);
        Check.chord(x, 53);
        Check.type(x, "abcd");
        check.due("told(0)", x.told(0), 2);
        check.due("told(1)", x.told(1), 9);
        check.due("told(2)", x.told(2), 4);
        check.due("told(3)", x.told(3), 3);
        check.due("told(4)", x.told(4), 4);
        check.due("told(5)", x.told(5), -2);
        check.due("told(-1)", x.told(-1), -2);
    }

    private static void frets() {
        FretHands x = Check.withStrings(40, 45);
        check.due("fret open", x.fret(0, 40), 0);
        check.due("fret 12", x.fret(0, 52), 12);
        check.due("fret 13", x.fret(0, 53), -1);
        check.due("fret -1", x.fret(1, 44), -1);
        check.due("fret on string 1", x.fret(1, 52), 7);
        check.due("no string 2", x.fret(2, 52), -2);
        check.due("no string -1", x.fret(-1, 52), -2);
        x.capo(3);
        check.due("below CAPO", x.fret(0, 42), -1);
        check.due("at CAPO", x.fret(0, 43), 3);
        x.neck(5);
        check.due("at NECK", x.fret(0, 45), 5);
        check.due("behind NECK", x.fret(0, 46), -1);
        check.due("a pitch that no string gives", x.fret(0, 124), -1);
        check.due("a pitch below 0", x.fret(0, -1), -1);
        check.due("the least pitch", x.fret(1, Integer.MIN_VALUE), -1);
        check.due("the greatest pitch", x.fret(1, Integer.MAX_VALUE), -1);
    }
}
