/** Promises 15 and 16 in ordinary use: grips and grip. */
public final class GripTest {
    private static final Check check = new Check();

    public static void main(String[] args) {
        oneFinger();
        openString();
        orderOfGrips();
        capoAndCosts();
        bonds();
        manyGrips();
        check.end("GripTest");
    }

    private static void dueGrip(FretHands x, int event, int k, int... want) {
        for (int what = 0; what < want.length; what++) {
            check.due("grip(" + event + ", " + k + ", " + what + ")", x.grip(event, k, what), want[what]);
        }
    }

    private static void oneFinger() {
        FretHands x = Check.withStrings(40);
        x.event(45);
        check.due("fret 5 from four positions", x.grips(0), 4);
        dueGrip(x, 0, 0, 2, 0, -1, -1, -1, 6);
        dueGrip(x, 0, 1, 3, 0, -1, -1, -1, 5);
        dueGrip(x, 0, 3, 5, 0, -1, -1, -1, 5);
        x.event(42);
        check.due("fret 2 from two positions", x.grips(1), 2);
        x.event(52);
        check.due("fret 12 at the end of the neck", x.grips(2), 4);
        dueGrip(x, 2, 0, 9, 0, -1, -1, -1, 13);
        dueGrip(x, 2, 3, 12, 0, -1, -1, -1, 12);
        x.event(53);
        check.due("a pitch behind the neck", x.grips(3), 0);
    }

    private static void openString() {
        FretHands x = Check.withStrings(40);
        x.event(40);
        check.due("an open string from every position", x.grips(0), 12);
        x.neck(1);
        check.due("a neck of one fret", x.grips(0), 1);
        dueGrip(x, 0, 0, 1, 0, -1, -1, -1, 1);
        x.neck(24);
        x.capo(23);
        check.due("now below CAPO", x.grips(0), 0);
        x.event(63);
        check.due("open at CAPO", x.grips(1), 1);
        dueGrip(x, 1, 0, 24, 0, -1, -1, -1, 1);
    }

    private static void orderOfGrips() {
        FretHands x = Check.withStrings(40, 40, 38);
        Check.chord(x, 43, 44);
        // Frets 3 and 4 on the first two strings, 5 and 6 on the third one.
        check.due("grips", x.grips(0), 14);
        dueGrip(x, 0, 0, 1, 0, 1, -1, -1, 8);
        dueGrip(x, 0, 1, 1, 1, 0, -1, -1, 8);
        dueGrip(x, 0, 2, 2, 0, 1, -1, -1, 7);
        dueGrip(x, 0, 3, 2, 1, 0, -1, -1, 7);
        dueGrip(x, 0, 4, 2, 2, 0, -1, -1, 10);
        dueGrip(x, 0, 5, 2, 2, 1, -1, -1, 10);
        dueGrip(x, 0, 6, 3, 0, 1, -1, -1, 7);
        dueGrip(x, 0, 7, 3, 0, 2, -1, -1, 10);
        dueGrip(x, 0, 8, 3, 1, 0, -1, -1, 7);
        dueGrip(x, 0, 9, 3, 1, 2, -1, -1, 10);
        dueGrip(x, 0, 10, 3, 2, 0, -1, -1, 9);
        dueGrip(x, 0, 11, 3, 2, 1, -1, -1, 9);
        dueGrip(x, 0, 12, 4, 2, 0, -1, -1, 9);
        dueGrip(x, 0, 13, 4, 2, 1, -1, -1, 9);
        dueGrip(x, 0, 14, -1, -1, -1, -1, -1, -1);
    }

    private static void capoAndCosts() {
        FretHands x = Check.withStrings(40, 45, 50);
        x.capo(2);
        x.weight(1, 5);
        x.weight(2, 7);
        x.weight(3, 11);
        x.weight(0, 13);
        Check.chord(x, 47, 46, 56);
        // String 1 at CAPO, string 0 and string 2 at fret 6: four frets behind CAPO each.
        check.due("grips", x.grips(0), 4);
        dueGrip(x, 0, 0, 3, 1, 0, 2, -1, 11 + 20 + 20 + 14);
        dueGrip(x, 0, 1, 4, 1, 0, 2, -1, 11 + 20 + 20);
        x.weight(1, 0);
        x.weight(2, 20);
        dueGrip(x, 0, 0, 3, 1, 0, 2, -1, 11 + 40);
        dueGrip(x, 0, 3, 6, 1, 0, 2, -1, 11);
    }

    private static void bonds() {
        FretHands x = Check.withStrings(40, 41, 42);
        Check.chord(x, 45, 46);
        int all = x.grips(0);
        x.bind(0, 0, 1);
        int bound = x.grips(0);
        check.due("fewer grips with a bond", bound < all ? 1 : 0, 1);
        for (int k = 0; k < bound; k++) {
            check.due("the bound string", x.grip(0, k, 1), 1);
        }
        x.bind(0, 1, 1);
        check.due("two on one string", x.grips(0), 0);
        x.bind(0, 0, -1);
        x.bind(0, 1, -1);
        check.due("no bond again", x.grips(0), all);
    }

    private static void manyGrips() {
        FretHands x = Check.withStrings(40, 40, 40, 40, 40, 40, 40);
        Check.chord(x, 44, 43, 42, 41);
        check.due("every way to lay four on seven", x.grips(0), 840);
        dueGrip(x, 0, 0, 1, 0, 1, 2, 3, 11);
        dueGrip(x, 0, 839, 1, 6, 5, 4, 3, 11);
        x.event(45);
        x.pitch(49);
        check.due("a span of four frets is too wide", x.grips(1), 0);
        x.event(45);
        x.pitch(48);
        check.due("a span of three is not", x.grips(2), 42);
    }
}
