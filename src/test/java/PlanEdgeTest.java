import java.util.function.Consumer;

/** The edges that promises 17 to 19 and the terms PLAN, SUM and THE PLAN name, sentence by sentence. */
public final class PlanEdgeTest {
    private static final int MIN = Integer.MIN_VALUE, MAX = Integer.MAX_VALUE;
    private static final int MOVE = 0, HIGH = 1, REACH = 2, LOOSE = 3;
    private static final Check check = new Check();

    public static void main(String[] args) {
        planWithoutEvents();
        planWithoutGrips();
        planOfOneEvent();
        planOfFortyEvents();
        sumOfMoves();
        sumsLeastAndGreatest();
        firstOfSeveralPlans();
        plannedWhatBounds();
        plannedBeforeAnyPlan();
        plannedEventBounds();
        plannedPitchBounds();
        plannedIsAGrip();
        plannedOfTheLatestPlan();
        plannedNoMoreBehind();
        plannedStillBehind();
        tiesWithoutEvents();
        tiesWithoutPlans();
        tiesOne();
        tiesUpToTheirBound();
        check.end("PlanEdgeTest");
    }

    private static void dueNoEvents(String when, FretHands x) {
        check.due("plan() " + when, x.plan(), -4);
        check.due("planned(0, 0) behind it", x.planned(0, 0), -1);
        check.due("write() behind it", x.write(), -4);
    }

    private static void planWithoutEvents() {
        check.sentence("17: STATE: there is no EVENT");
        dueNoEvents("of a new object", new FretHands());
        FretHands x = Check.withStrings(40);
        dueNoEvents("with a string", x);
        x.event(45);
        check.due("plan() with an event", x.plan(), 5);
        x.drop();
        dueNoEvents("behind drop()", x);
        x.event(45);
        x.plan();
        check.due("read() of no events", Check.read(x, "||\n"), 0);
        dueNoEvents("behind read()", x);
        x.event(45);
        x.plan();
        x.clear();
        dueNoEvents("behind clear()", x);
    }

    private static void planWithoutGrips() {
        check.sentence("17: NONE: an EVENT has no GRIP");
        FretHands none = new FretHands();
        none.event(40);
        check.due("without strings", none.plan(), -1);
        for (int odd = 0; odd < 40; odd += 13) {
            FretHands x = Check.withStrings(40);
            for (int e = 0; e < 40; e++) {
                x.event(e == odd ? 53 : 52);
            }
            check.due("EVENT " + odd + " behind NECK", x.plan(), -1);
            check.due("planned(0, 0)", x.planned(0, 0), -1);
            check.due("planned(39, 6)", x.planned(39, 6), -1);
            check.due("ties()", x.ties(), 0);
            x.neck(13);
            check.due("with NECK one longer", x.plan() > 0 ? 1 : 0, 1);
        }
        FretHands y = Check.withStrings(40, 45);
        Check.chord(y, 50);
        y.bind(0, 0, 0);
        check.due("before the bond", y.plan(), 10);
        Check.chord(y, 46, 47, 48);
        check.due("three PITCHES on two strings", y.plan(), -1);
    }

    private static void planOfOneEvent() {
        check.sentence("17: its SUM (of one EVENT its COST, without MOVE)");
        FretHands x = Check.withStrings(40);
        x.weight(MOVE, 20);
        x.event(52);
        check.due("plan()", x.plan(), 12);
        check.due("position", x.planned(0, 0), 10);
        check.due("number", x.planned(0, 6), 1);
        check.due("planned(1, 0)", x.planned(1, 0), -1);
    }

    private static void planOfFortyEvents() {
        check.sentence("17: its SUM (of forty EVENTS)");
        FretHands x = Check.withStrings(40);
        for (int e = 0; e < 40; e++) {
            x.event(e % 2 == 0 ? 41 : 46);
        }
        // Fret 1 from position 1 alone; fret 6 from 3 (with REACH) or 4: one fret nearer costs as
        // much as it saves at the last event, and at the others it saves twice as much.
        check.due("plan()", x.plan(), 20 * 1 + 20 * (6 + 1) + 39 * 2);
        for (int e = 0; e < 40; e++) {
            check.due("planned(" + e + ", 0)", x.planned(e, 0), e % 2 == 0 ? 1 : 3);
            check.due("planned(" + e + ", 6)", x.planned(e, 6), 0);
        }
        check.due("planned(40, 0)", x.planned(40, 0), -1);
        check.due("ties(): the last one from 3 or 4", x.ties(), 2);
    }

    private static void sumOfMoves() {
        check.sentence("Terms: MOVE times how far the POSITIONS of each two that follow one another are apart");
        int[] moves = {0, 1, 20};
        for (int move : moves) {
            FretHands x = Check.withStrings(40, 40, 40, 40);
            x.neck(24);
            x.weight(MOVE, move);
            x.weight(HIGH, 0);
            x.weight(REACH, 0);
            Check.chord(x, 41, 42, 43, 44);
            Check.chord(x, 61, 62, 63, 64);
            Check.chord(x, 51, 52, 53, 54);
            // Each of them can be held from one position alone: 1, 21 and 11.
            check.due("up and down with MOVE " + move, x.plan(), move * (20 + 10));
            check.due("planned(1, 0)", x.planned(1, 0), 21);
            check.due("planned(2, 0)", x.planned(2, 0), 11);
            x.drop();
            check.due("up alone", x.plan(), move * 20);
        }
    }

    private static void sumsLeastAndGreatest() {
        check.sentence("Terms: its SUM: the COSTS of all, and MOVE");
        FretHands x = Check.withStrings(40, 40, 40, 40);
        x.neck(24);
        for (int kind = 0; kind < 4; kind++) {
            x.weight(kind, 0);
        }
        for (int e = 0; e < 40; e++) {
            if (e % 2 == 0) {
                Check.chord(x, 61, 62, 63, 64);
            } else {
                Check.chord(x, 41, 42, 43, 44);
            }
        }
        check.due("with WEIGHTS of 0", x.plan(), 0);
        check.due("planned(39, 0)", x.planned(39, 0), 1);
        for (int kind = 0; kind < 4; kind++) {
            x.weight(kind, 20);
        }
        int high = 20 * (21 + 22 + 23 + 24) + 20;
        int low = 20 * (1 + 2 + 3 + 4) + 20;
        check.due("with WEIGHTS of 20", x.plan(), 20 * high + 20 * low + 39 * 20 * 20);
        check.due("planned(38, 5)", x.planned(38, 5), high);
        check.due("planned(39, 5)", x.planned(39, 5), low);
    }

    private static void firstOfSeveralPlans() {
        check.sentence("Terms: of several the one with the first GRIP at EVENT 0, of these that at EVENT 1, and so on");
        FretHands x = Check.withStrings(40, 40);
        x.weight(MOVE, 0);
        Check.events(x, 3, 40);
        check.due("plan() of OPEN ones", x.plan(), 3);
        check.due("ties()", x.ties(), 24 * 24 * 24);
        for (int e = 0; e < 3; e++) {
            check.due("the first GRIP at " + e, x.planned(e, 6), 0);
            check.due("its POSITION", x.planned(e, 0), 1);
            check.due("its STRING", x.planned(e, 1), 0);
        }
        x.weight(MOVE, 1);
        x.event(45);
        // Fret 5 without REACH from 3, 4 and 5: the hand stays, so all four events are held there.
        check.due("plan() that stays", x.plan(), 3 + 5);
        check.due("ties() that stay", x.ties(), 3 * 16);
        for (int e = 0; e < 4; e++) {
            check.due("the first POSITION at " + e, x.planned(e, 0), 3);
            check.due("the first STRING at " + e, x.planned(e, 1), 0);
            check.due("its number at " + e, x.planned(e, 6), e < 3 ? 4 : 2);
        }
        FretHands y = Check.withStrings(45, 40, 40);
        y.weight(HIGH, 0);
        Check.chord(y, 44, 43);
        // Position 1 has REACH for fret 4; of the others 2 comes first, and string 1 ahead of 2.
        check.due("plan() of two PITCHES", y.plan(), 0);
        check.due("POSITION", y.planned(0, 0), 2);
        check.due("first STRING", y.planned(0, 1), 1);
        check.due("second STRING", y.planned(0, 2), 2);
        check.due("number", y.planned(0, 6), 2);
        check.due("ties()", y.ties(), 4);
    }

    private static FretHands planned() {
        FretHands x = Check.withStrings(40, 45, 50);
        Check.chord(x, 50, 45);
        Check.chord(x, 52);
        Check.chord(x, 47, 50, 41);
        check.due("plan()", x.plan() >= 0 ? 1 : 0, 1);
        check.due("it is found", x.planned(2, 6) >= 0 ? 1 : 0, 1);
        return x;
    }

    private static void plannedWhatBounds() {
        check.sentence("18: OUTSIDE: what (0 to 6)");
        int[] outside = {-1, 7, MIN, MAX};
        FretHands empty = new FretHands();
        FretHands x = planned();
        for (int what : outside) {
            check.due("planned(0, " + what + ")", x.planned(0, what), -2);
            check.due("planned(3, " + what + "): OUTSIDE, not NONE", x.planned(3, what), -2);
            check.due("of a new object: OUTSIDE, not NONE", empty.planned(0, what), -2);
        }
        for (int what = 0; what <= 6; what++) {
            check.due("of a new object", empty.planned(0, what), -1);
        }
        check.due("planned(1, 0)", x.planned(1, 0), x.grip(1, x.planned(1, 6), 0));
    }

    private static void plannedBeforeAnyPlan() {
        check.sentence("18: NONE: it found none");
        FretHands x = Check.withStrings(40);
        x.event(45);
        check.due("ahead of plan()", x.planned(0, 0), -1);
        check.due("ties() is no plan()", x.ties(), 3);
        check.due("behind ties()", x.planned(0, 0), -1);
        check.due("plan()", x.plan(), 5);
        check.due("behind plan()", x.planned(0, 0), 3);
        x.event(90);
        check.due("plan() that finds none", x.plan(), -1);
        for (int what = 0; what <= 6; what++) {
            check.due("planned(0, " + what + ") then", x.planned(0, what), -1);
            check.due("planned(1, " + what + ") then", x.planned(1, what), -1);
        }
    }

    private static void plannedEventBounds() {
        check.sentence("18: NONE: there is no such EVENT in it");
        FretHands x = planned();
        x.plan();
        int[] none = {-1, 3, 4, 39, 40, MIN, MAX};
        for (int what = 0; what <= 6; what++) {
            for (int event : none) {
                check.due("planned(" + event + ", " + what + ")", x.planned(event, what), -1);
            }
        }
        check.due("planned(2, 0)", x.planned(2, 0) > 0 ? 1 : 0, 1);
        x.drop();
        x.drop();
        x.plan();
        check.due("planned(1, 0) of a shorter PLAN", x.planned(1, 0), -1);
        check.due("planned(0, 0)", x.planned(0, 0) > 0 ? 1 : 0, 1);
    }

    private static void plannedPitchBounds() {
        check.sentence("18: NONE: there is no such PITCH in it");
        FretHands x = Check.withStrings(40, 45, 50, 55, 60, 65, 70);
        int[][] chords = {{75}, {75, 70}, {75, 70, 65}, {75, 70, 65, 60}};
        for (int[] chord : chords) {
            int event = Check.chord(x, chord);
            for (int i = 0; i < chord.length; i++) {
                x.bind(event, i, 6 - i);
            }
        }
        check.due("plan()", x.plan(), (1 + 2 + 3 + 4) * 5);
        for (int event = 0; event < 4; event++) {
            for (int i = 0; i < 4; i++) {
                check.due("planned(" + event + ", " + (i + 1) + ")",
                        x.planned(event, i + 1), i <= event ? 6 - i : -1);
            }
            check.due("planned(" + event + ", 5)", x.planned(event, 5), 5 * (event + 1));
        }
    }

    private static void plannedIsAGrip() {
        check.sentence("18: the GRIP, as in grip() (what = 0 to 5), its number (6)");
        FretHands x = planned();
        for (int event = 0; event < 3; event++) {
            int k = x.planned(event, 6);
            for (int what = 0; what <= 5; what++) {
                check.due("planned(" + event + ", " + what + ")", x.planned(event, what), x.grip(event, k, what));
            }
        }
        // The last grip of all is the only one that is cheap enough.
        FretHands y = Check.withStrings(40, 41);
        y.neck(1);
        y.weight(LOOSE, 20);
        y.event(41);
        check.due("plan()", y.plan(), 1);
        check.due("number", y.planned(0, 6), 0);
        y.weight(HIGH, 20);
        y.weight(LOOSE, 0);
        check.due("plan() of the last GRIP", y.plan(), 0);
        check.due("its number", y.planned(0, 6), 1);
        check.due("how many there are", y.grips(0), 2);
    }

    private static void plannedOfTheLatestPlan() {
        check.sentence("18: THE PLAN that the latest plan() found");
        FretHands x = Check.withStrings(40, 52);
        x.neck(24);
        x.event(52);
        check.due("plan()", x.plan(), 1);
        check.due("OPEN on string 1", x.planned(0, 1), 1);
        x.weight(LOOSE, 20);
        check.due("none behind weight()", x.planned(0, 1), -1);
        check.due("plan() then", x.plan(), 12);
        check.due("FRET 12 on string 0", x.planned(0, 1), 0);
        check.due("plan() again", x.plan(), 12);
        check.due("the same", x.planned(0, 1), 0);
    }

    private static void dueGone(String call, Consumer<FretHands> change) {
        FretHands x = planned();
        change.accept(x);
        for (int event = 0; event < 4; event++) {
            check.due("planned(" + event + ", 0) behind " + call, x.planned(event, 0), -1);
            check.due("planned(" + event + ", 6) behind " + call, x.planned(event, 6), -1);
        }
        check.due("write() behind " + call, x.write(), -4);
    }

    private static void plannedNoMoreBehind() {
        check.sentence("18: it is found no more behind .. that were not refused");
        dueGone("clear()", x -> check.due("clear()", x.clear(), 3));
        dueGone("clear(), string() and event()", x -> {
            x.clear();
            check.due("string()", x.string(40), 1);
            check.due("event()", x.event(45), 0);
        });
        dueGone("neck()", x -> check.due("neck(13)", x.neck(13), 12));
        dueGone("neck() that changes nothing", x -> check.due("neck(12)", x.neck(12), 12));
        dueGone("capo()", x -> check.due("capo(1)", x.capo(1), 0));
        dueGone("capo() that changes nothing", x -> check.due("capo(0)", x.capo(0), 0));
        for (int kind = 0; kind < 4; kind++) {
            int k = kind;
            dueGone("weight()", x -> check.due("weight(" + k + ", 20)", x.weight(k, 20), 1));
            dueGone("weight() that changes nothing", x -> check.due("weight(" + k + ", 1)", x.weight(k, 1), 1));
        }
        dueGone("event()", x -> check.due("event(50)", x.event(50), 3));
        dueGone("pitch()", x -> check.due("pitch(52)", x.pitch(52), 4));
        dueGone("bind()", x -> check.due("bind(0, 0, 2)", x.bind(0, 0, 2), -1));
        dueGone("bind() that changes nothing", x -> check.due("bind(0, 0, NONE)", x.bind(0, 0, -1), -1));
        dueGone("drop()", x -> check.due("drop()", x.drop(), 2));
        dueGone("drop() and event()", x -> {
            x.drop();
            Check.chord(x, 47, 50, 41);
        });
        dueGone("read() of one event", x -> check.due("read()", Check.read(x, "|1|\n|-|\n|-|\n"), 1));
        dueGone("read() of no events", x -> check.due("read()", Check.read(x, "||\n||\n||\n"), 0));
        dueGone("read() of the PLAN's own TAB", x -> {
            x.write();
            check.due("read()", x.read(), 3);
        });
    }

    private static void dueThere(String call, Consumer<FretHands> change) {
        FretHands x = planned();
        int[][] before = allPlanned(x);
        change.accept(x);
        int[][] behind = allPlanned(x);
        for (int event = 0; event < 3; event++) {
            for (int what = 0; what <= 6; what++) {
                check.due("planned(" + event + ", " + what + ") behind " + call,
                        behind[event][what], before[event][what]);
            }
        }
        check.due("write() behind " + call, x.write() > 0 ? 1 : 0, 1);
    }

    private static int[][] allPlanned(FretHands x) {
        int[][] all = new int[3][7];
        for (int event = 0; event < 3; event++) {
            for (int what = 0; what <= 6; what++) {
                all[event][what] = x.planned(event, what);
            }
        }
        return all;
    }

    private static void plannedStillBehind() {
        check.sentence("18: it is found still behind calls that were refused, a read() with a FAULT, and calls that tell");
        dueThere("string() with events", x -> check.due("string(50)", x.string(50), -4));
        dueThere("neck() out of bounds", x -> check.due("neck(25)", x.neck(25), -2));
        dueThere("neck() not above CAPO", x -> check.due("neck(0)", x.neck(0), -2));
        dueThere("capo() out of bounds", x -> check.due("capo(12)", x.capo(12), -2));
        dueThere("weight() of no kind", x -> check.due("weight(4, 1)", x.weight(4, 1), -2));
        dueThere("weight() out of bounds", x -> check.due("weight(0, 21)", x.weight(0, 21), -2));
        dueThere("event() out of bounds", x -> check.due("event(124)", x.event(124), -2));
        dueThere("pitch() that it has", x -> check.due("pitch(41)", x.pitch(41), -2));
        dueThere("bind() of no EVENT", x -> check.due("bind(3, 0, 0)", x.bind(3, 0, 0), -3));
        dueThere("bind() to no STRING", x -> check.due("bind(0, 0, 3)", x.bind(0, 0, 3), -2));
        String[] faults = {"|", "|13|\n|--|\n|--|\n", "|-1|\n|10|\n|--|\n", "|0|\n|5|\n|-|\n"};
        for (int fault = 1; fault <= faults.length; fault++) {
            int due = -10 - fault;
            String text = faults[fault - 1];
            dueThere("a FAULT " + fault, x -> check.due("read()", Check.read(x, text), due));
        }
        String surplus = "|" + "-1".repeat(41) + "|\n" + ("|" + "-".repeat(82) + "|\n").repeat(2);
        dueThere("a FAULT 5", x -> check.due("read()", Check.read(x, surplus), -15));
        dueThere("ties()", x -> check.due("ties()", x.ties() > 0 ? 1 : 0, 1));
        dueThere("grip()", x -> check.due("grip(0, 0, 0)", x.grip(0, 0, 0) > 0 ? 1 : 0, 1));
        dueThere("grips()", x -> check.due("grips(2)", x.grips(2) > 0 ? 1 : 0, 1));
        dueThere("sign(), empty() and write()", x -> {
            x.sign(65);
            x.empty();
            x.write();
        });
    }

    private static void tiesWithoutEvents() {
        check.sentence("19: STATE: there is no EVENT");
        FretHands x = new FretHands();
        check.due("of a new object", x.ties(), -4);
        x.string(40);
        check.due("with a string", x.ties(), -4);
        x.event(45);
        check.due("with an event", x.ties(), 3);
        x.drop();
        check.due("behind drop()", x.ties(), -4);
    }

    private static void tiesWithoutPlans() {
        check.sentence("19: 0: there is no PLAN");
        FretHands x = new FretHands();
        x.event(40);
        check.due("without strings", x.ties(), 0);
        FretHands y = Check.withStrings(40);
        y.event(53);
        y.event(40);
        check.due("the first EVENT without GRIPS", y.ties(), 0);
        y.clear();
        y.string(40);
        y.event(40);
        y.event(39);
        check.due("the last EVENT without GRIPS", y.ties(), 0);
    }

    private static void tiesOne() {
        check.sentence("19: How many PLANS have the least SUM: 1");
        FretHands x = Check.withStrings(40);
        x.event(41);
        check.due("of one EVENT", x.ties(), 1);
        Check.events(x, 39, 41);
        check.due("of forty EVENTS", x.ties(), 1);
        FretHands y = Check.withStrings(40, 39);
        y.event(41);
        check.due("a dearer GRIP does not count", y.ties(), 1);
        y.weight(HIGH, 0);
        check.due("as dear it does: fret 2 from 1 and 2", y.ties(), 3);
    }

    private static FretHands weightless(int neck, int[] strings, int... pitches) {
        FretHands x = Check.withStrings(strings);
        x.neck(neck);
        for (int kind = 0; kind < 4; kind++) {
            x.weight(kind, 0);
        }
        for (int pitch : pitches) {
            x.event(pitch);
        }
        return x;
    }

    private static void tiesUpToTheirBound() {
        check.sentence("19: 1 to 999999, that for more, too");
        // Without weights every row of grips is a plan of the least sum.
        FretHands below = weightless(24, new int[] {45, 49, 42, 41}, 43, 43, 51, 53, 53, 45);
        check.due("3 * 3 * 14 * 16 * 16 * 31", below.ties(), 999936);
        FretHands at = weightless(21, new int[] {50, 41, 44, 50, 49, 42, 45}, 43, 43, 46, 47, 41, 49);
        check.due("3 * 3 * 11 * 13 * 21 * 37", at.ties(), 999999);
        FretHands above = weightless(24, new int[] {44, 47, 49}, 51, 51, 51, 51, 51, 51);
        check.due("10 to the sixth", above.ties(), 999999);
        int[] seven = {40, 40, 40, 40, 40, 40, 40};
        FretHands most = weightless(24, seven);
        Check.events(most, 40, 40);
        check.due("168 to the 40th", most.ties(), 999999);
        check.due("its plan()", most.plan(), 0);
        // Many ways up to the last event, which then has but one, and the other way round.
        FretHands last = weightless(24, seven, 40, 40, 40, 40, 40, 40, 40, 40, 40, 64);
        last.bind(9, 0, 0);
        check.due("very many with one at the end", last.ties(), 999999);
        last.weight(MOVE, 1);
        check.due("where the hand stays at 21, 22, 23 or 24", last.ties(), 999999);
        FretHands stays = weightless(24, new int[] {40}, 40, 40, 40, 40, 40, 40, 40, 40, 40, 64);
        stays.weight(MOVE, 1);
        check.due("on one string", stays.ties(), 4);
    }
}
