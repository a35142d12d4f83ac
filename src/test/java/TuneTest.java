/** Promises 7 to 10, 12 and 13 in ordinary use: event, pitch, bind, drop, at, bound. */
public final class TuneTest {
    private static final Check check = new Check();

    public static void main(String[] args) {
        building();
        binding();
        dropping();
        check.end("TuneTest");
    }

    private static void building() {
        FretHands x = new FretHands();
        check.due("event(70)", x.event(70), 0);
        check.due("event(60)", x.event(60), 1);
        check.due("pitch(64)", x.pitch(64), 2);
        check.due("pitch(57)", x.pitch(57), 3);
        check.due("event(62)", x.event(62), 2);
        int[][] want = {{70, -1, -1, -1}, {60, 64, 57, -1}, {62, -1, -1, -1}};
        for (int e = 0; e < want.length; e++) {
            for (int i = 0; i < 4; i++) {
                check.due("at(" + e + ", " + i + ")", x.at(e, i), want[e][i]);
                check.due("bound(" + e + ", " + i + ")", x.bound(e, i), -1);
            }
        }
    }

    private static void binding() {
        FretHands x = Check.withStrings(40, 45, 50);
        Check.chord(x, 50, 55);
        Check.chord(x, 60);
        check.due("bind(0, 1, 2)", x.bind(0, 1, 2), -1);
        check.due("bind(0, 1, 0)", x.bind(0, 1, 0), 2);
        check.due("bind(1, 0, 1)", x.bind(1, 0, 1), -1);
        check.due("bound(0, 0)", x.bound(0, 0), -1);
        check.due("bound(0, 1)", x.bound(0, 1), 0);
        check.due("bound(1, 0)", x.bound(1, 0), 1);
        check.due("bind(0, 1, NONE)", x.bind(0, 1, -1), 0);
        check.due("bound(0, 1) to none", x.bound(0, 1), -1);
    }

    private static void dropping() {
        FretHands x = new FretHands();
        Check.chord(x, 50, 51, 52);
        x.event(53);
        check.due("drop()", x.drop(), 1);
        check.due("pitch() is of the event before", x.pitch(54), 4);
        check.due("at(0, 3)", x.at(0, 3), 54);
        check.due("drop() of the last", x.drop(), 0);
        check.due("event() behind it", x.event(60), 0);
        check.due("it has one pitch", x.pitch(61), 2);
    }
}
