/** Promises 1 to 6, 11 and 14 in ordinary use: string, clear, neck, capo, weight, told, fret. */
public final class InstrumentTest {
    private static final Check check = new Check();

    public static void main(String[] args) {
        tuning();
        changing();
        clearing();
        telling();
        frets();
        check.end("InstrumentTest");
    }

    private static void tuning() {
        FretHands x = new FretHands();
        int[] guitar = {40, 45, 50, 55, 59, 64};
        for (int s = 0; s < guitar.length; s++) {
            check.due("string(" + guitar[s] + ")", x.string(guitar[s]), s + 1);
        }
        for (int s = 0; s < guitar.length; s++) {
            check.due("fret 3 on string " + s, x.fret(s, guitar[s] + 3), 3);
        }
    }

    private static void changing() {
        FretHands x = new FretHands();
        check.due("neck(20)", x.neck(20), 12);
        check.due("neck(15)", x.neck(15), 20);
        check.due("capo(5)", x.capo(5), 0);
        check.due("capo(4)", x.capo(4), 5);
        check.due("weight(2, 7)", x.weight(2, 7), 1);
        check.due("weight(2, 3)", x.weight(2, 3), 7);
        check.due("weight(3, 4)", x.weight(3, 4), 1);
        check.due("told(1)", x.told(1), 15);
        check.due("told(2)", x.told(2), 4);
    }

    private static void clearing() {
        FretHands x = Check.guitar();
        x.event(60);
        x.event(61);
        x.sign(65);
        check.due("clear()", x.clear(), 2);
        check.due("no strings", x.told(0), 0);
        check.due("no events", x.told(3), 0);
        check.due("the sign stays", x.tape(0), 65);
        check.due("a string behind clear()", x.string(30), 1);
        check.due("its fret", x.fret(0, 33), 3);
    }

    private static void telling() {
        FretHands x = Check.withStrings(40, 45);
        x.neck(9);
        x.capo(4);
        Check.chord(x, 50, 51);
        Check.chord(x, 52);
        Check.chord(x, 53);
        Check.type(x, "abcd");
        int[] want = {2, 9, 4, 3, 4};
        for (int what = 0; what < want.length; what++) {
            check.due("told(" + what + ")", x.told(what), want[what]);
        }
    }

    private static void frets() {
        FretHands x = Check.withStrings(40, 45);
        check.due("open", x.fret(0, 40), 0);
        check.due("fret 7", x.fret(1, 52), 7);
        check.due("behind NECK", x.fret(0, 60), -1);
        check.due("below the string", x.fret(1, 42), -1);
        x.capo(3);
        check.due("below CAPO", x.fret(0, 41), -1);
        check.due("at CAPO", x.fret(0, 43), 3);
        check.due("behind CAPO", x.fret(0, 44), 4);
    }
}
