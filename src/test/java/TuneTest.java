/** Promises 7 to 10, 12 and 13: event, pitch, bind, drop, at, bound. */
public final class TuneTest {
    private static final Check check = new Check();

    public static void main(String[] args) {
        events();
        pitches();
        binding();
        dropping();
        check.end("TuneTest");
    }

    private static void events() {
        FretHands x = new FretHands();
        check.due("event(-1)", x.event(-1), -2);
        check.due("event(124)", x.event(124), -2);
        check.due("told(3) behind refused ones", x.told(3), 0);
        for (int i = 0; i < 40; i++) {
            check.due("event " + i, x.event(i % 2 == 0 ? 0 : 123), i);
        }
        check.due("the 41st event", x.event(50), -5);
        check.due("the 41st event, wrong pitch", x.event(124), -2);
        check.due("told(3)", x.told(3), 40);
        check.due("at(38, 0)", x.at(38, 0), 0);
        check.due("at(39, 0)", x.at(39, 0), 123);
        check.due("at(40, 0)", x.at(40, 0), -3);
        check.due("at(-1, 0)", x.at(-1, 0), -3);
        check.due("bound(40, 0)", x.bound(40, 0), -3);
        check.due("bound(-1, 0)", x.bound(-1, 0), -3);
        check.due("bound(39, 0)", x.bound(39, 0), -1);
    }

    private static void pitches() {
        FretHands x = new FretHands();
        check.due("pitch without an event", x.pitch(50), -4);
        check.due("wrong pitch without an event", x.pitch(-1), -2);
        x.event(70);
        x.event(60);
        check.due("the same pitch", x.pitch(60), -2);
        check.due("pitch(-1)", x.pitch(-1), -2);
        check.due("pitch(124)", x.pitch(124), -2);
        check.due("the pitch of another event", x.pitch(70), 2);
        check.due("pitch(0)", x.pitch(0), 3);
        check.due("pitch(123)", x.pitch(123), 4);
        check.due("the fifth pitch", x.pitch(5), -5);
        check.due("the fifth pitch that it has", x.pitch(0), -2);
        int[] want = {60, 70, 0, 123, -1};
        for (int i = 0; i < want.length; i++) {
            check.due("at(1, " + i + ")", x.at(1, i), want[i]);
            check.due("bound(1, " + i + ")", x.bound(1, i), -1);
        }
        check.due("at(1, -1)", x.at(1, -1), -1);
        check.due("bound(1, -1)", x.bound(1, -1), -1);
        check.due("at(0, 1)", x.at(0, 1), -1);
    }

    private static void binding() {
        FretHands x = Check.withStrings(40, 45, 50);
        Check.chord(x, 50, 55);
        Check.chord(x, 60);
        check.due("bind(0, 1, 2)", x.bind(0, 1, 2), -1);
        check.due("bind(0, 1, 0)", x.bind(0, 1, 0), 2);
        check.due("bind(0, 1, 3)", x.bind(0, 1, 3), -2);
        check.due("bind(0, 1, -2)", x.bind(0, 1, -2), -2);
        check.due("bind(0, 2, 0)", x.bind(0, 2, 0), -2);
        check.due("bind(0, -1, 0)", x.bind(0, -1, 0), -2);
        check.due("bind(2, 0, 0)", x.bind(2, 0, 0), -3);
        check.due("bind(-1, 0, 0)", x.bind(-1, 0, 0), -3);
        check.due("UNKNOWN ahead of OUTSIDE", x.bind(2, 9, 9), -3);
        check.due("bound(0, 1)", x.bound(0, 1), 0);
        check.due("bound(0, 0)", x.bound(0, 0), -1);
        check.due("bind(0, 1, NONE)", x.bind(0, 1, -1), 0);
        check.due("bound(0, 1) to none", x.bound(0, 1), -1);
        check.due("bind(1, 0, 1)", x.bind(1, 0, 1), -1);
        x.drop();
        x.event(60);
        check.due("a new event is bound to none", x.bound(1, 0), -1);
        x.bind(0, 1, 2);
        x.drop();
        x.drop();
        Check.chord(x, 50, 55);
        check.due("a new pitch is bound to none", x.bound(0, 1), -1);
        FretHands y = new FretHands();
        y.event(50);
        check.due("bind without strings", y.bind(0, 0, 0), -2);
        check.due("bind to none without strings", y.bind(0, 0, -1), -1);
    }

    private static void dropping() {
        FretHands x = new FretHands();
        check.due("drop() of none", x.drop(), -4);
        Check.chord(x, 50, 51, 52);
        x.event(53);
        check.due("drop()", x.drop(), 1);
        check.due("pitch() is of the event before", x.pitch(54), 4);
        check.due("drop() of the last", x.drop(), 0);
        check.due("drop() again", x.drop(), -4);
        check.due("event() behind it", x.event(60), 0);
        check.due("it has one pitch", x.pitch(61), 2);
    }
}
