import java.util.function.Supplier;
import java.util.function.ToIntFunction;

/**
 * "Then nothing changes": of two objects made alike, one is asked for what is refused (or for what
 * only tells), and then both must answer every question alike.
 */
public final class RefusedTest {
    private static final int NONE = -1, OUTSIDE = -2, UNKNOWN = -3, STATE = -4, ROOM = -5;
    private static final int MIN = Integer.MIN_VALUE, MAX = Integer.MAX_VALUE;
    private static final Check check = new Check();

    private final String state;
    private final Supplier<FretHands> make;
    private final String before;

    private RefusedTest(String state, Supplier<FretHands> make) {
        this.state = state;
        this.make = make;
        this.before = allAnswers(make.get());
        check.due(state + " is told alike each time", allAnswers(make.get()), before);
    }

    public static void main(String[] args) {
        ofAPlannedTune();
        ofAChangedTune();
        ofFullEvents();
        ofAFullEvent();
        ofFullStrings();
        ofStringsAlone();
        ofNoStrings();
        ofAFullTape();
        check.end("RefusedTest");
    }

    private void due(String call, int want, ToIntFunction<FretHands> ask) {
        check.sentence("Terms: then nothing changes: " + state);
        FretHands x = make.get();
        check.due(call, ask.applyAsInt(x), want);
        check.due("all answers behind " + call, allAnswers(x), before);
        FretHands y = make.get();
        ask.applyAsInt(y);
        check.due(call + " the second time", ask.applyAsInt(y), want);
    }

    /** All that can be asked, that which changes the object last. */
    private static String allAnswers(FretHands x) {
        StringBuilder all = new StringBuilder();
        for (int what = 0; what < 5; what++) {
            all.append("told ").append(x.told(what)).append('\n');
        }
        all.append("place ").append(x.place()).append('\n');
        all.append("tape ").append(tapeOf(x)).append('\n');
        for (int s = 0; s < x.told(0); s++) {
            for (int pitch = 40; pitch < 60; pitch += 3) {
                all.append("fret ").append(x.fret(s, pitch)).append('\n');
            }
        }
        for (int e = 0; e < x.told(3); e++) {
            all.append("event ").append(e).append(eventOf(x, e)).append('\n');
        }
        all.append("ties ").append(x.ties()).append('\n');
        all.append("write ").append(x.write()).append(' ').append(tapeOf(x)).append('\n');
        all.append("plan ").append(x.plan()).append('\n');
        for (int kind = 0; kind < 4; kind++) {
            all.append("weight ").append(x.weight(kind, 0)).append('\n');
        }
        return all.toString();
    }

    private static String tapeOf(FretHands x) {
        StringBuilder all = new StringBuilder();
        for (int i = 0; i < x.told(4); i++) {
            all.append(x.tape(i)).append(' ');
        }
        return all.toString();
    }

    private static String eventOf(FretHands x, int e) {
        StringBuilder all = new StringBuilder(" at");
        for (int i = 0; i < 5; i++) {
            all.append(' ').append(x.at(e, i)).append(" on ").append(x.bound(e, i));
        }
        all.append(" grips ").append(x.grips(e)).append(" planned");
        for (int what = 0; what <= 6; what++) {
            all.append(' ').append(x.planned(e, what));
        }
        all.append(" grip");
        for (int what = 0; what <= 5; what++) {
            all.append(' ').append(x.grip(e, 1, what));
        }
        return all.toString();
    }

    private static FretHands strung() {
        FretHands x = Check.withStrings(40, 45, 50);
        x.neck(9);
        x.capo(2);
        for (int kind = 0; kind < 4; kind++) {
            x.weight(kind, 2 + kind);
        }
        check.due("a FAULT", Check.read(x, "|-x"), -11);
        Check.type(x, "|-3-|\n");
        return x;
    }

    private static FretHands changed() {
        FretHands x = strung();
        Check.chord(x, 50, 47);
        Check.chord(x, 53);
        Check.chord(x, 48, 52, 55);
        x.bind(0, 0, 1);
        x.bind(2, 2, 2);
        return x;
    }

    private static FretHands planned() {
        FretHands x = changed();
        check.due("plan()", x.plan() > 0 ? 1 : 0, 1);
        return x;
    }

    private static void ofAPlannedTune() {
        RefusedTest test = new RefusedTest("a planned tune", RefusedTest::planned);
        test.instrumentCalls();
        test.tuneCalls();
        test.askingCalls();
        test.tapeCalls();
    }

    private void instrumentCalls() {
        int[] notOpen = {-1, 100, MIN, MAX};
        for (int pitch : notOpen) {
            due("string(" + pitch + ")", OUTSIDE, x -> x.string(pitch));
        }
        due("string(0)", STATE, x -> x.string(0));
        due("string(99)", STATE, x -> x.string(99));
        int[] notNeck = {0, 1, 2, 25, -1, MIN, MAX};
        for (int n : notNeck) {
            due("neck(" + n + ")", OUTSIDE, x -> x.neck(n));
        }
        int[] notCapo = {-1, 9, 10, 24, MIN, MAX};
        for (int n : notCapo) {
            due("capo(" + n + ")", OUTSIDE, x -> x.capo(n));
        }
        int[] notKind = {-1, 4, MIN, MAX};
        for (int kind : notKind) {
            due("weight(" + kind + ", 1)", OUTSIDE, x -> x.weight(kind, 1));
        }
        int[] notWeight = {-1, 21, MIN, MAX};
        for (int w : notWeight) {
            for (int kind = 0; kind < 4; kind++) {
                int k = kind;
                due("weight(" + k + ", " + w + ")", OUTSIDE, x -> x.weight(k, w));
            }
        }
    }

    private void tuneCalls() {
        int[] notPitch = {-1, 124, MIN, MAX};
        for (int pitch : notPitch) {
            due("event(" + pitch + ")", OUTSIDE, x -> x.event(pitch));
            due("pitch(" + pitch + ")", OUTSIDE, x -> x.pitch(pitch));
        }
        int[] had = {48, 52, 55};
        for (int pitch : had) {
            due("pitch(" + pitch + ")", OUTSIDE, x -> x.pitch(pitch));
        }
        int[] notEvent = {-1, 3, 40, MIN, MAX};
        for (int event : notEvent) {
            due("bind(" + event + ", 0, 0)", UNKNOWN, x -> x.bind(event, 0, 0));
            due("bind(" + event + ", 9, 9)", UNKNOWN, x -> x.bind(event, 9, 9));
        }
        int[] notOfTwo = {-1, 2, 3, 4, MIN, MAX};
        for (int i : notOfTwo) {
            due("bind(0, " + i + ", 0)", OUTSIDE, x -> x.bind(0, i, 0));
        }
        int[] notString = {-2, 3, 7, MIN, MAX};
        for (int string : notString) {
            due("bind(0, 0, " + string + ")", OUTSIDE, x -> x.bind(0, 0, string));
        }
    }

    private void askingCalls() {
        int[] notEvent = {-1, 3, MIN, MAX};
        for (int event : notEvent) {
            due("at(" + event + ", 0)", UNKNOWN, x -> x.at(event, 0));
            due("bound(" + event + ", 0)", UNKNOWN, x -> x.bound(event, 0));
            due("grips(" + event + ")", UNKNOWN, x -> x.grips(event));
            due("grip(" + event + ", 0, 0)", UNKNOWN, x -> x.grip(event, 0, 0));
            due("planned(" + event + ", 0)", NONE, x -> x.planned(event, 0));
            due("fret(" + event + ", 50)", OUTSIDE, x -> x.fret(event, 50));
        }
        int[] notTold = {-1, 5, MIN, MAX};
        for (int what : notTold) {
            due("told(" + what + ")", OUTSIDE, x -> x.told(what));
        }
        int[] notPart = {-1, 7, MIN, MAX};
        for (int what : notPart) {
            due("grip(0, 0, " + what + ")", OUTSIDE, x -> x.grip(0, 0, what));
            due("planned(0, " + what + ")", OUTSIDE, x -> x.planned(0, what));
        }
        due("grip(0, 0, 6)", OUTSIDE, x -> x.grip(0, 0, 6));
        due("grip(0, -1, 0)", NONE, x -> x.grip(0, -1, 0));
        due("grip(0, 99, 0)", NONE, x -> x.grip(0, 99, 0));
        due("grip(2, 0, 5)", make.get().grip(2, 0, 5), x -> x.grip(2, 0, 5));
        due("grips(2)", make.get().grips(2), x -> x.grips(2));
        due("ties()", make.get().ties(), FretHands::ties);
        due("plan() again", make.get().plan(), FretHands::plan);
    }

    private void tapeCalls() {
        int[] notSign = {0, 128, -1, MIN, MAX};
        for (int c : notSign) {
            due("sign(" + c + ")", OUTSIDE, x -> x.sign(c));
        }
        due("tape(-1)", NONE, x -> x.tape(-1));
        due("tape(6)", NONE, x -> x.tape(6));
        due("tape(0)", '|', x -> x.tape(0));
        due("place()", 2, FretHands::place);
    }

    private static void ofAChangedTune() {
        RefusedTest test = new RefusedTest("a tune without a plan", RefusedTest::changed);
        test.due("write()", STATE, FretHands::write);
        test.due("planned(0, 0)", NONE, x -> x.planned(0, 0));
        test.due("planned(0, 7)", OUTSIDE, x -> x.planned(0, 7));
        test.due("ties()", test.make.get().ties(), FretHands::ties);
    }

    private static void ofFullEvents() {
        RefusedTest test = new RefusedTest("forty events", () -> {
            FretHands x = Check.withStrings(40, 45);
            Check.events(x, 40, 47);
            x.plan();
            return x;
        });
        test.due("event(50)", ROOM, x -> x.event(50));
        test.due("event(0)", ROOM, x -> x.event(0));
        test.due("event(123)", ROOM, x -> x.event(123));
        test.due("event(124)", OUTSIDE, x -> x.event(124));
        test.due("event(-1)", OUTSIDE, x -> x.event(-1));
        test.due("string(50)", STATE, x -> x.string(50));
        test.due("at(40, 0)", UNKNOWN, x -> x.at(40, 0));
        test.due("bind(40, 0, 0)", UNKNOWN, x -> x.bind(40, 0, 0));
        test.due("planned(40, 0)", NONE, x -> x.planned(40, 0));
        test.due("grip(40, 0, 0)", UNKNOWN, x -> x.grip(40, 0, 0));
    }

    private static void ofAFullEvent() {
        RefusedTest test = new RefusedTest("an event of four pitches", () -> {
            FretHands x = Check.withStrings(40, 45, 50, 55);
            Check.chord(x, 41, 46, 51, 56);
            x.plan();
            return x;
        });
        test.due("pitch(60)", ROOM, x -> x.pitch(60));
        test.due("pitch(0)", ROOM, x -> x.pitch(0));
        test.due("pitch(123)", ROOM, x -> x.pitch(123));
        test.due("pitch(124)", OUTSIDE, x -> x.pitch(124));
        test.due("pitch(56)", OUTSIDE, x -> x.pitch(56));
        test.due("bind(0, 4, 0)", OUTSIDE, x -> x.bind(0, 4, 0));
        test.due("bind(0, 0, 4)", OUTSIDE, x -> x.bind(0, 0, 4));
    }

    private static void ofFullStrings() {
        RefusedTest test = new RefusedTest("seven strings", () -> Check.withStrings(40, 41, 42, 43, 44, 45, 46));
        test.due("string(47)", ROOM, x -> x.string(47));
        test.due("string(0)", ROOM, x -> x.string(0));
        test.due("string(99)", ROOM, x -> x.string(99));
        test.due("string(100)", OUTSIDE, x -> x.string(100));
        test.due("fret(7, 50)", OUTSIDE, x -> x.fret(7, 50));
    }

    private static void ofStringsAlone() {
        RefusedTest test = new RefusedTest("strings without events", RefusedTest::strung);
        test.due("pitch(50)", STATE, x -> x.pitch(50));
        test.due("drop()", STATE, FretHands::drop);
        test.due("plan()", STATE, FretHands::plan);
        test.due("ties()", STATE, FretHands::ties);
        test.due("write()", STATE, FretHands::write);
        test.due("bind(0, 0, 0)", UNKNOWN, x -> x.bind(0, 0, 0));
        test.due("at(0, 0)", UNKNOWN, x -> x.at(0, 0));
        test.due("bound(0, 0)", UNKNOWN, x -> x.bound(0, 0));
        test.due("grips(0)", UNKNOWN, x -> x.grips(0));
        test.due("grip(0, 0, 0)", UNKNOWN, x -> x.grip(0, 0, 0));
        test.due("planned(0, 0)", NONE, x -> x.planned(0, 0));
    }

    private static void ofNoStrings() {
        RefusedTest test = new RefusedTest("no strings", () -> {
            FretHands x = strung();
            x.clear();
            x.event(50);
            return x;
        });
        test.due("read()", STATE, FretHands::read);
        test.due("write()", STATE, FretHands::write);
        test.due("string(50)", STATE, x -> x.string(50));
        test.due("fret(0, 50)", OUTSIDE, x -> x.fret(0, 50));
        test.due("bind(0, 0, 0)", OUTSIDE, x -> x.bind(0, 0, 0));
        test.due("plan()", NONE, FretHands::plan);
        test.due("ties()", 0, FretHands::ties);
    }

    /** Further than the 512 calls of the document: the room's end lies behind them. */
    private static void ofAFullTape() {
        RefusedTest test = new RefusedTest("a full tape", () -> {
            FretHands x = Check.withStrings(40);
            for (int i = 0; i < 2000; i++) {
                x.sign(1 + i % 127);
            }
            return x;
        });
        test.due("sign(65)", ROOM, x -> x.sign(65));
        test.due("sign(0)", OUTSIDE, x -> x.sign(0));
        test.due("sign(128)", OUTSIDE, x -> x.sign(128));
    }
}
