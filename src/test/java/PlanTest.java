import java.util.Random;

/** Promises 17 to 19 in ordinary use: plan, planned, ties. */
public final class PlanTest {
    private static final Check check = new Check();

    public static void main(String[] args) {
        firstOfSeveral();
        moveOrStay();
        lastPosition();
        everyPlan();
        cappedTies();
        check.end("PlanTest");
    }

    private static void firstOfSeveral() {
        FretHands x = Check.withStrings(40, 40);
        x.weight(0, 0);
        x.weight(2, 0);
        x.event(45);
        check.due("plan()", x.plan(), 5);
        check.due("position", x.planned(0, 0), 2);
        check.due("string", x.planned(0, 1), 0);
        check.due("cost", x.planned(0, 5), 5);
        check.due("number", x.planned(0, 6), 0);
        check.due("ties()", x.ties(), 8);
        x.weight(2, 1);
        check.due("plan() with REACH", x.plan(), 5);
        check.due("position with REACH", x.planned(0, 0), 3);
        check.due("number with REACH", x.planned(0, 6), 2);
        check.due("ties() with REACH", x.ties(), 6);
    }

    private static void moveOrStay() {
        FretHands x = Check.withStrings(40, 50);
        x.event(41);
        x.event(52);
        x.event(41);
        x.weight(0, 20);
        check.due("plan() that stays", x.plan(), 1 + 2 + 1);
        check.due("it stays at 1", x.planned(1, 0), 1);
        check.due("it takes string 1", x.planned(1, 1), 1);
        x.bind(1, 0, 0);
        x.weight(0, 1);
        // Fret 12 from position 9 costs REACH, but saves a fret of the way there and one back.
        check.due("plan() that moves", x.plan(), 1 + 13 + 1 + 16);
        check.due("it goes to 9", x.planned(1, 0), 9);
        check.due("its number", x.planned(1, 6), 0);
        check.due("its cost", x.planned(1, 5), 13);
        check.due("one plan is the least", x.ties(), 1);
        x.weight(0, 0);
        check.due("plan() that moves for nothing", x.plan(), 14);
        check.due("then 10 is the first without REACH", x.planned(1, 0), 10);
        check.due("ties() for 10, 11 and 12", x.ties(), 3);
    }

    private static void lastPosition() {
        FretHands x = Check.withStrings(40, 45);
        x.neck(24);
        x.capo(23);
        Check.chord(x, 64, 68);
        Check.chord(x, 69);
        check.due("plan() with one position", x.plan(), 1 + 1 + 1);
        check.due("it is NECK", x.planned(0, 0), 24);
        check.due("also at event 1", x.planned(1, 0), 24);
        check.due("string of its second pitch", x.planned(0, 2), 1);
        check.due("ties()", x.ties(), 1);
    }

    /** Small tunes: every row of grips is made, and weighed by what grip() tells. */
    private static void everyPlan() {
        Random random = new Random(7);
        for (int round = 0; round < 150; round++) {
            FretHands x = new FretHands();
            int strings = 1 + random.nextInt(3);
            for (int s = 0; s < strings; s++) {
                x.string(40 + random.nextInt(8));
            }
            x.neck(3 + random.nextInt(5));
            x.capo(random.nextInt(2));
            int[] weights = new int[4];
            for (int kind = 0; kind < 4; kind++) {
                weights[kind] = random.nextInt(3);
                x.weight(kind, weights[kind]);
            }
            int events = 1 + random.nextInt(3);
            for (int e = 0; e < events; e++) {
                x.event(42 + random.nextInt(8));
                if (random.nextInt(3) == 0) {
                    x.pitch(42 + random.nextInt(8));
                }
            }
            weighEveryPlan("round " + round, x, events, weights[0]);
        }
    }

    private static void weighEveryPlan(String round, FretHands x, int events, int move) {
        int[] sizes = new int[events];
        int plans = 1;
        for (int e = 0; e < events; e++) {
            sizes[e] = x.grips(e);
            plans *= sizes[e];
        }
        int least = -1;
        int ties = 0;
        int first = 0;
        for (int number = 0; number < plans; number++) {
            int sum = sumOf(x, number, sizes, move);
            if (least == -1 || sum < least) {
                least = sum;
                ties = 0;
                first = number;
            }
            if (sum == least) {
                ties++;
            }
        }
        check.due(round + ": plan()", x.plan(), least);
        check.due(round + ": ties()", x.ties(), ties);
        for (int e = 0; e < events; e++) {
            check.due(round + ": planned(" + e + ", 6)", x.planned(e, 6), plans == 0 ? -1 : gripIn(first, e, sizes));
        }
    }

    /** Plan numbers count the grips of the last event first: so they are in the plans' order. */
    private static int gripIn(int number, int event, int[] sizes) {
        int rest = number;
        for (int e = sizes.length - 1; e > event; e--) {
            rest /= sizes[e];
        }
        return rest % sizes[event];
    }

    private static int sumOf(FretHands x, int number, int[] sizes, int move) {
        int sum = 0;
        for (int e = 0; e < sizes.length; e++) {
            int k = gripIn(number, e, sizes);
            sum += x.grip(e, k, 5);
            if (e > 0) {
                sum += move * Math.abs(x.grip(e, k, 0) - x.grip(e - 1, gripIn(number, e - 1, sizes), 0));
            }
        }
        return sum;
    }

    private static void cappedTies() {
        FretHands x = Check.withStrings(40);
        x.weight(0, 0);
        x.neck(10);
        for (int i = 0; i < 5; i++) {
            x.event(40);
        }
        check.due("ties() of ten to the fifth", x.ties(), 100000);
        x.event(40);
        check.due("ties() of ten to the sixth", x.ties(), 999999);
        x.neck(24);
        for (int i = 6; i < 40; i++) {
            x.event(40);
        }
        check.due("ties() of very many", x.ties(), 999999);
        check.due("plan() of forty open strings", x.plan(), 40);
        // Fret 10 has three positions without REACH, an open string ten.
        x.clear();
        x.string(40);
        x.neck(10);
        for (int i = 0; i < 5; i++) {
            x.event(40);
        }
        x.event(50);
        check.due("ties() below the cap", x.ties(), 300000);
    }
}
