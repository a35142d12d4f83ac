import java.util.Random;

/** Long runs of calls, ordinary and wild ones, against the document written once more. */
public final class SlowHandsTest {
    private static final Check check = new Check();
    private static final int RUNS = 4000;
    private static final int CALLS = 512;
    private static final long SEED_STEP = 0x9E3779B97F4A7C15L;
    private static final int LEAST_MET = 30;
    private static final int[] EDGES = {Integer.MIN_VALUE, -3, -2, -1, 0, 1, 2, 6, 7, 12, 24, 25, 40, 99, 124, Integer.MAX_VALUE};

    // How often runs began with so many strings, and how often read() answered each fault or none.
    private static final int[] stringsMet = new int[8];
    private static final int[] faultsMet = new int[6];
    private static int plansMet = 0;
    private static int longPlansMet = 0;
    private static int plansMissed = 0;
    // Of plans: one alone is best, or several, or so many that ties() counts no further.
    private static final int[] tiesMet = new int[3];

    private final Random random;
    private final FretHands fast = new FretHands();
    private final SlowHands slow = new SlowHands();
    private final String run;
    private final boolean wild;
    private final boolean playable;
    private int calls = 0;

    private SlowHandsTest(int run) {
        this.run = "run " + run;
        // Small seeds in a row begin with nearly the same numbers, and so with as many strings.
        this.random = new Random(run * SEED_STEP);
        this.wild = run % 3 == 0;
        this.playable = run % 3 == 1;
    }

    public static void main(String[] args) {
        for (int run = 0; run < RUNS && !check.isWrong(); run++) {
            SlowHandsTest test = new SlowHandsTest(run);
            test.tuneUp();
            stringsMet[test.slow.strings.size()]++;
            while (test.calls < CALLS && !check.isWrong()) {
                test.step();
            }
        }
        metAll();
        check.end("SlowHandsTest");
    }

    /** Runs that agree say little about what they never came to. */
    private static void metAll() {
        for (int s = 0; s < stringsMet.length; s++) {
            metOften("runs with " + s + " strings", stringsMet[s]);
        }
        for (int f = 0; f < faultsMet.length; f++) {
            metOften("tabs with fault " + f, faultsMet[f]);
        }
        metOften("plans", plansMet);
        metOften("plans of ten events and more", longPlansMet);
        metOften("plans that are alone", tiesMet[0]);
        metOften("plans of some", tiesMet[1]);
        metOften("plans of 999999 and more", tiesMet[2]);
        metOften("tunes without a plan", plansMissed);
    }

    private static void metOften(String what, int often) {
        System.out.println("  " + what + ": " + often);
        check.due(what + ", fewer than " + LEAST_MET, often < LEAST_MET ? often : LEAST_MET, LEAST_MET);
    }

    private void due(String call, int got, int want) {
        calls++;
        check.due(run + ", call " + calls + ": " + call, got, want);
    }

    private int some(int from, int to) {
        if (wild && random.nextInt(12) == 0) {
            return EDGES[random.nextInt(EDGES.length)];
        }
        return from + random.nextInt(to - from + 1);
    }

    private void tuneUp() {
        int strings = random.nextInt(8);
        int spread = random.nextInt(3) * 5;
        int low = 30 + random.nextInt(10);
        for (int s = 0; s < strings; s++) {
            int pitch = low + s * spread / 2 + random.nextInt(4);
            due("string(" + pitch + ")", fast.string(pitch), slow.string(pitch));
        }
    }

    private void step() {
        int dice = random.nextInt(100);
        if (dice < 3) {
            change();
        } else if (dice < 30) {
            grow();
        } else if (dice < 40) {
            bindOne();
        } else if (dice < 75) {
            ask();
        } else if (dice < 90) {
            planOne();
        } else {
            tab();
        }
    }

    private void change() {
        int a = some(0, 24);
        // Weights of 0 make many plans alike.
        int b = random.nextInt(2) == 0 ? 0 : some(0, 20);
        switch (random.nextInt(6)) {
            case 0:
                due("neck(" + a + ")", fast.neck(a), slow.neck(a));
                break;
            case 1:
                a = some(0, 6);
                due("capo(" + a + ")", fast.capo(a), slow.capo(a));
                break;
            case 2:
                if (random.nextInt(10) == 0) {
                    due("clear()", fast.clear(), slow.clear());
                    tuneUp();
                }
                break;
            case 3:
                a = some(0, 99);
                due("string(" + a + ")", fast.string(a), slow.string(a));
                break;
            default:
                a = some(0, 3);
                due("weight(" + a + ", " + b + ")", fast.weight(a, b), slow.weight(a, b));
        }
    }

    private void grow() {
        int pitch = some(36, 62);
        switch (random.nextInt(5)) {
            case 0:
            case 1:
                due("event(" + pitch + ")", fast.event(pitch), slow.event(pitch));
                break;
            case 2:
            case 3:
                due("pitch(" + pitch + ")", fast.pitch(pitch), slow.pitch(pitch));
                break;
            default:
                due("drop()", fast.drop(), slow.drop());
        }
        if (playable) {
            keepPlayable();
        }
    }

    /** One event without a grip leaves the whole tune without a plan: such runs let it go. */
    private void keepPlayable() {
        int last = slow.events.size() - 1;
        if (last >= 0 && slow.grips(last) == 0) {
            due("drop()", fast.drop(), slow.drop());
        }
    }

    private void bindOne() {
        int event = some(0, Math.max(0, slow.events.size() - 1));
        int i = some(0, 1);
        int string = some(-1, 6);
        if (random.nextInt(3) > 0) {
            string = -1;
        }
        due("bind(" + event + ", " + i + ", " + string + ")", fast.bind(event, i, string), slow.bind(event, i, string));
        if (playable && slow.grips(event) == 0) {
            due("bind(" + event + ", " + i + ", -1)", fast.bind(event, i, -1), slow.bind(event, i, -1));
        }
    }

    private void ask() {
        int event = some(0, Math.max(0, slow.events.size() - 1));
        int i = some(0, 4);
        int what = some(0, 5);
        int k = some(0, 20);
        int string = some(0, 6);
        int pitch = some(30, 60);
        switch (random.nextInt(8)) {
            case 0:
                due("told(" + i + ")", fast.told(i), slow.told(i));
                break;
            case 1:
                due("at(" + event + ", " + i + ")", fast.at(event, i), slow.at(event, i));
                break;
            case 2:
                due("bound(" + event + ", " + i + ")", fast.bound(event, i), slow.bound(event, i));
                break;
            case 3:
                due("fret(" + string + ", " + pitch + ")", fast.fret(string, pitch), slow.fret(string, pitch));
                break;
            case 4:
                due("grips(" + event + ")", fast.grips(event), slow.grips(event));
                break;
            case 5:
                due("tape(" + k + ")", fast.tape(k), slow.tape(k));
                break;
            default:
                due("grip(" + event + ", " + k + ", " + what + ")", fast.grip(event, k, what), slow.grip(event, k, what));
        }
    }

    private void planOne() {
        int event = some(0, Math.max(0, slow.events.size() - 1));
        int what = some(0, 6);
        switch (random.nextInt(6)) {
            case 0:
                plan();
                break;
            case 1:
                due("ties()", fast.ties(), slow.ties());
                break;
            default:
                due("planned(" + event + ", " + what + ")", fast.planned(event, what), slow.planned(event, what));
        }
    }

    private void plan() {
        int due = slow.plan();
        due("plan()", fast.plan(), due);
        if (due >= 0) {
            plansMet++;
            longPlansMet += slow.events.size() >= 10 ? 1 : 0;
            int ties = slow.ties();
            tiesMet[ties == 1 ? 0 : ties < 999999 ? 1 : 2]++;
        } else if (due == -1) {
            plansMissed++;
        }
    }

    private void tab() {
        switch (random.nextInt(5)) {
            case 0:
                plan();
                due("write()", fast.write(), slow.write());
                check.due(run + ": the tape", Check.tape(fast), slow.tape);
                break;
            case 1:
                due("empty()", fast.empty(), slow.empty());
                break;
            case 2:
                int sign = some(40, 60);
                due("sign(" + sign + ")", fast.sign(sign), slow.sign(sign));
                break;
            default:
                readOne();
        }
    }

    private void readOne() {
        String text = random.nextInt(4) == 0 ? "" : makeTab();
        if (text.length() > 0 && text.length() < CALLS - calls) {
            due("empty()", fast.empty(), slow.empty());
            for (int i = 0; i < text.length(); i++) {
                due("sign(" + (int) text.charAt(i) + ")", fast.sign(text.charAt(i)), slow.sign(text.charAt(i)));
            }
        }
        int due = slow.read();
        due("read() of " + text, fast.read(), due);
        if (due != -4) {
            faultsMet[due < 0 ? -10 - due : 0]++;
        }
        due("place()", fast.place(), slow.place());
        due("told(3)", fast.told(3), slow.told(3));
        for (int e = 0; e < slow.events.size(); e++) {
            for (int i = 0; i < 4; i++) {
                check.due(run + ": at", fast.at(e, i), slow.at(e, i));
                check.due(run + ": bound", fast.bound(e, i), slow.bound(e, i));
            }
        }
    }

    /** Mostly a tab that can be read, else one with a number or a sign that is not in its place. */
    private String makeTab() {
        int m = slow.strings.size();
        // Wide tabs have a number in nearly every second column, and so about forty events.
        boolean wide = random.nextInt(4) == 0;
        int width = wide ? 80 + random.nextInt(8) : random.nextInt(12);
        int room = Math.max(1, slow.neck - slow.capo + (random.nextInt(3) == 0 ? 2 : 1));
        if (wide) {
            room = Math.min(room, 10);
        }
        int density = wide ? 1 + random.nextInt(2) : 2 + random.nextInt(8);
        char[][] rows = new char[m][width];
        for (char[] row : rows) {
            java.util.Arrays.fill(row, '-');
        }
        for (int c = random.nextInt(2); c < width; c += wide ? 2 : 1 + random.nextInt(3)) {
            for (int s = 0; s < m; s++) {
                if (random.nextInt(density) == 0) {
                    char[] digits = Integer.toString(random.nextInt(room)).toCharArray();
                    System.arraycopy(digits, 0, rows[s], c, Math.min(digits.length, width - c));
                }
            }
        }
        StringBuilder text = new StringBuilder();
        for (char[] row : rows) {
            text.append('|').append(row).append("|\n");
        }
        spoil(text);
        return text.toString();
    }

    private void spoil(StringBuilder text) {
        if (text.length() == 0 || random.nextInt(3) > 0) {
            return;
        }
        int i = random.nextInt(text.length());
        switch (random.nextInt(4)) {
            case 0:
                text.deleteCharAt(i);
                break;
            case 1:
                text.insert(i, "|-\n05x".charAt(random.nextInt(6)));
                break;
            case 2:
                text.setCharAt(i, "|-\n05x".charAt(random.nextInt(6)));
                break;
            default:
                text.setLength(i);
        }
    }
}
