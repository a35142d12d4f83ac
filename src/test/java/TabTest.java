/** Promises 23 to 25: write, read, place. */
public final class TabTest {
    private static final Check check = new Check();

    public static void main(String[] args) {
        writing();
        readingBack();
        readingEvents();
        wrongSigns();
        wrongNumbers();
        shiftedNumbers();
        wrongEvents();
        surplusEvents();
        leastFaultCounts();
        whatReadLeaves();
        check.end("TabTest");
    }

    private static void dueFault(FretHands x, String text, int fault, int place) {
        check.due("read() of " + text, Check.read(x, text), -10 - fault);
        check.due("place() of " + text, x.place(), place);
        check.due("told(4) behind it", x.told(4), 0);
    }

    private static void dueEvents(FretHands x, String text, int events) {
        check.due("read() of " + text, Check.read(x, text), events);
        check.due("place() of " + text, x.place(), -1);
        check.due("told(3) behind it", x.told(3), events);
        check.due("told(4) behind it", x.told(4), 0);
    }

    private static void writing() {
        FretHands x = Check.withStrings(40, 45, 50);
        x.sign(65);
        check.due("write() without events", x.write(), -4);
        Check.chord(x, 50, 47);
        Check.chord(x, 60);
        Check.chord(x, 49);
        x.bind(0, 0, 0);
        check.due("write() without a plan", x.write(), -4);
        check.due("THE TAPE stays", x.told(4), 1);
        x.bind(0, 0, 2);
        x.bind(1, 0, 1);
        x.bind(2, 0, 0);
        check.due("plan() behind the neck", x.plan(), -1);
        check.due("write() where none is found", x.write(), -4);
        x.neck(24);
        x.plan();
        check.due("write()", x.write(), 33);
        check.due("the tab", Check.tape(x), "|-0------|\n|-2-15---|\n|------9-|\n");
        x.capo(2);
        x.bind(0, 0, -1);
        x.bind(0, 1, -1);
        x.plan();
        check.due("write() with CAPO", x.write(), 33);
        check.due("the tab with CAPO", Check.tape(x), "|--------|\n|-0-13---|\n|-8----7-|\n");
        check.due("write() again", x.write(), 33);
        x.clear();
        x.neck(12);
        x.capo(0);
        x.string(40);
        x.string(50);
        Check.chord(x, 49, 60);
        Check.chord(x, 50);
        x.bind(1, 0, 1);
        x.plan();
        check.due("write() of numbers of two lengths", x.write(), 18);
        check.due("the shorter one is filled up", Check.tape(x), "|-10-0-|\n|-9----|\n");
    }

    private static void readingBack() {
        FretHands x = Check.guitar();
        x.neck(24);
        x.capo(1);
        int[][] tune = {{53, 41}, {60, 65, 56}, {70}, {88}, {47, 52, 57, 61}};
        for (int[] chord : tune) {
            Check.chord(x, chord);
        }
        int sum = x.plan();
        x.write();
        String tab = Check.tape(x);
        check.due("read()", x.read(), tune.length);
        for (int e = 0; e < tune.length; e++) {
            int sumOfPitches = 0;
            for (int i = 0; i < tune[e].length; i++) {
                sumOfPitches += x.at(e, i) - tune[e][i];
                check.due("bound in order", x.bound(e, i) > x.bound(e, i - 1) ? 1 : 0, 1);
            }
            check.due("the pitches of event " + e, sumOfPitches, 0);
        }
        check.due("plan() again", x.plan(), sum);
        x.write();
        check.due("the tab again", Check.tape(x), tab);
    }

    private static void readingEvents() {
        FretHands x = Check.withStrings(40, 45);
        dueEvents(x, "||\n||\n", 0);
        dueEvents(x, "|-|\n|-|\n", 0);
        dueEvents(x, "|3|\n|4|\n", 1);
        check.due("at(0, 0)", x.at(0, 0), 44);
        check.due("at(0, 1)", x.at(0, 1), 48);
        check.due("bound(0, 0)", x.bound(0, 0), 0);
        check.due("bound(0, 1)", x.bound(0, 1), 1);
        dueEvents(x, "|12|\n|--|\n", 1);
        check.due("at(0, 0) of 12", x.at(0, 0), 57);
        check.due("at(0, 1) of 12", x.at(0, 1), -1);
        check.due("bound(0, 0) of 12", x.bound(0, 0), 1);
        dueEvents(x, "|0---10|\n|-4-2--|\n", 4);
        check.due("at(1, 0)", x.at(1, 0), 44);
        check.due("at(3, 0)", x.at(3, 0), 55);
        x.capo(5);
        dueEvents(x, "|-7-|\n|-0-|\n", 1);
        check.due("at(0, 0) with CAPO", x.at(0, 0), 45);
        check.due("at(0, 1) with CAPO", x.at(0, 1), 57);
        FretHands z = Check.withStrings(40, 41, 42, 43, 44, 45, 46);
        dueEvents(z, "|1---|\n|---1|\n|1-1-|\n|---2|\n|--1-|\n|1--3|\n|--1-|\n", 3);
        check.due("seven strings: at(0, 0)", z.at(0, 0), 42);
        check.due("seven strings: bound(0, 2)", z.bound(0, 2), 6);
        check.due("seven strings: at(1, 0)", z.at(1, 0), 41);
        check.due("seven strings: at(2, 2)", z.at(2, 2), 46);
        FretHands y = Check.withStrings(99);
        y.neck(24);
        dueEvents(y, "|24|\n", 1);
        check.due("the highest pitch", y.at(0, 0), 123);
    }

    private static void wrongSigns() {
        FretHands x = Check.withStrings(40, 45);
        dueFault(x, "", 1, 0);
        dueFault(x, "-", 1, 0);
        dueFault(x, "\n", 1, 0);
        dueFault(x, "|", 1, 1);
        dueFault(x, "|\n", 1, 1);
        dueFault(x, "|-3", 1, 3);
        dueFault(x, "|-x", 1, 2);
        dueFault(x, "|-3-\n", 1, 4);
        dueFault(x, "|-3-|", 1, 5);
        dueFault(x, "|-3-|-|\n", 1, 5);
        dueFault(x, "|-3-||\n", 1, 5);
        dueFault(x, "|-3-|\n", 1, 6);
        dueFault(x, "|-3-|\n-", 1, 6);
        dueFault(x, "|-3-|\n|", 1, 7);
        dueFault(x, "|-3-|\n|-3-", 1, 10);
        dueFault(x, "|-3-|\n|-3|\n", 1, 9);
        dueFault(x, "|-3-|\n|-3--|\n", 1, 10);
        dueFault(x, "|-3-|\n|-3-|", 1, 11);
        dueFault(x, "|-3-|\n|-3-||", 1, 11);
        dueFault(x, "|-3-|\n|-\n", 1, 8);
        dueFault(x, "|-3-|\n|-3-|\n|", 1, 12);
        dueFault(x, "|-3-|\n|-3-|\n|-3-|\n", 1, 12);
        dueFault(x, "|-/-|\n|-3-|\n", 1, 2);
        dueFault(x, "|-:-|\n|-3-|\n", 1, 2);
        dueFault(x, "|-3-|\n|-:-|\n", 1, 8);
        dueFault(x, "||\n|-|\n", 1, 4);
    }

    private static void wrongNumbers() {
        FretHands x = Check.withStrings(40, 45);
        dueFault(x, "|-123-|\n|-----|\n", 2, 2);
        dueFault(x, "|-----|\n|1000-|\n", 2, 9);
        dueFault(x, "|-00-|\n|----|\n", 2, 2);
        dueFault(x, "|-3--|\n|-05-|\n", 2, 9);
        dueFault(x, "|-13-|\n|----|\n", 2, 2);
        dueFault(x, "|-3-13-|\n|-13-3-|\n", 2, 4);
        x.neck(5);
        dueFault(x, "|-6-|\n|---|\n", 2, 2);
        dueEvents(x, "|-5-|\n|---|\n", 1);
        x.capo(2);
        dueFault(x, "|---|\n|-4-|\n", 2, 8);
        dueEvents(x, "|---|\n|-3-|\n", 1);
        check.due("at(0, 0)", x.at(0, 0), 45);
    }

    private static void shiftedNumbers() {
        FretHands x = Check.withStrings(40, 45, 50);
        dueFault(x, "|-12-|\n|--3-|\n|----|\n", 3, 10);
        dueFault(x, "|--3-|\n|----|\n|-12-|\n", 3, 3);
        dueFault(x, "|--12-|\n|-11--|\n|-----|\n", 3, 3);
        dueFault(x, "|-12--|\n|--11-|\n|---1-|\n", 3, 11);
        dueEvents(x, "|-12-|\n|-3--|\n|---4|\n", 2);
        dueEvents(x, "|-12--|\n|3----|\n|----4|\n", 3);
    }

    private static void wrongEvents() {
        FretHands x = Check.withStrings(40, 45, 50);
        dueFault(x, "|-0-|\n|-5-|\n|---|\n", 4, 8);
        dueFault(x, "|-0-|\n|---|\n|-10|\n", 4, 14);
        // The later event has no number on string 0, so its place comes first.
        dueFault(x, "|-----0-|\n|-0---5-|\n|-5-----|\n", 4, 16);
        // The lowest string of the event counts, also where the same pitch lies on higher ones.
        dueFault(x, "|-0-|\n|-5-|\n|-1-|\n", 4, 14);
        FretHands y = Check.withStrings(40, 41, 42, 43, 44);
        dueFault(y, "|1|\n|1|\n|1|\n|1|\n|1|\n", 4, 17);
        dueEvents(y, "|1|\n|1|\n|1|\n|-|\n|1|\n", 1);
        FretHands z = Check.withStrings(50, 45, 40);
        dueFault(z, "|-10-|\n|----|\n|-0--|\n", 4, 16);
    }

    private static String numbers(int count) {
        return "|" + "-1".repeat(count) + "|\n";
    }

    private static void surplusEvents() {
        FretHands x = Check.withStrings(40);
        dueEvents(x, numbers(40), 40);
        dueFault(x, numbers(41), 5, 82);
        dueFault(x, numbers(43), 5, 82);
        FretHands y = Check.withStrings(40, 45);
        dueFault(y, "|" + "-1".repeat(41) + "|\n|" + "-".repeat(80) + "-2|\n", 5, 85 + 82);
        // Other events are 41st by their column, not by their place on the tape.
        dueFault(y, "|" + "-1".repeat(20) + "-".repeat(42) + "|\n|" + "-".repeat(40) + "-1".repeat(21) + "|\n",
                5, 85 + 82);
    }

    private static void leastFaultCounts() {
        FretHands x = Check.withStrings(40, 45);
        dueFault(x, "|-99-|\n|----|\nx", 1, 14);
        dueFault(x, "|-12--|\n|--399|\n", 2, 11);
        dueFault(x, "|-0-12-|\n|-5--3-|\n", 3, 14);
        dueFault(x, "|" + "-1".repeat(45) + "-0|\n|" + "-".repeat(91) + "5|\n", 4, 95 + 92);
        check.due("place() ahead of a read() without a fault", x.place(), 95 + 92);
        dueEvents(x, "||\n||\n", 0);
    }

    private static void whatReadLeaves() {
        FretHands x = Check.withStrings(40, 45);
        Check.chord(x, 50, 46);
        x.bind(0, 0, 1);
        dueFault(x, "|-5-|\n", 1, 6);
        check.due("a FAULT leaves the events", x.told(3), 1);
        check.due("their pitches", x.at(0, 1), 46);
        check.due("their bonds", x.bound(0, 0), 1);
        dueEvents(x, "|-5-|\n|---|\n", 1);
        check.due("the new pitch", x.at(0, 0), 50);
        check.due("no other", x.at(0, 1), -1);
        dueFault(x, "|", 1, 1);
        x.clear();
        Check.type(x, "ab");
        check.due("read() without strings", x.read(), -4);
        check.due("THE TAPE stays", x.told(4), 2);
        check.due("a refused read() changes nothing", x.place(), 1);
        x.event(50);
        check.due("read() without strings, with an event", x.read(), -4);
    }
}
