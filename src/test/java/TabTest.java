/** Promises 23 to 25 in ordinary use: write, read, place. */
public final class TabTest {
    private static final Check check = new Check();

    public static void main(String[] args) {
        writing();
        readingBack();
        readingEvents();
        check.end("TabTest");
    }

    private static void dueEvents(FretHands x, String text, int events) {
        check.due("read() of " + text, Check.read(x, text), events);
        check.due("place() of " + text, x.place(), -1);
        check.due("told(3) behind it", x.told(3), events);
        check.due("told(4) behind it", x.told(4), 0);
    }

    private static void writing() {
        FretHands x = Check.withStrings(40, 45, 50);
        x.neck(24);
        Check.chord(x, 50, 47);
        Check.chord(x, 60);
        Check.chord(x, 49);
        x.bind(0, 0, 2);
        x.bind(1, 0, 1);
        x.bind(2, 0, 0);
        x.plan();
        check.due("write()", x.write(), 33);
        check.due("the tab", Check.tape(x), "|-0------|\n|-2-15---|\n|------9-|\n");
        x.capo(2);
        x.bind(0, 0, -1);
        x.bind(0, 1, -1);
        x.plan();
        check.due("write() with CAPO", x.write(), 33);
        check.due("the tab with CAPO", Check.tape(x), "|--------|\n|-0-13---|\n|-8----7-|\n");
        check.due("write() again", x.write(), 33);
        x.clear();
        x.neck(12);
        x.capo(0);
        x.string(40);
        x.string(50);
        Check.chord(x, 49, 60);
        Check.chord(x, 50);
        x.bind(1, 0, 1);
        x.plan();
        check.due("write() of numbers of two lengths", x.write(), 18);
        check.due("the shorter one is filled up", Check.tape(x), "|-10-0-|\n|-9----|\n");
    }

    private static void readingBack() {
        FretHands x = Check.guitar();
        x.neck(24);
        x.capo(1);
        int[][] tune = {{53, 41}, {60, 65, 56}, {70}, {88}, {47, 52, 57, 61}};
        for (int[] chord : tune) {
            Check.chord(x, chord);
        }
        int sum = x.plan();
        x.write();
        String tab = Check.tape(x);
        check.due("read()", x.read(), tune.length);
        for (int e = 0; e < tune.length; e++) {
            int sumOfPitches = 0;
            for (int i = 0; i < tune[e].length; i++) {
                sumOfPitches += x.at(e, i) - tune[e][i];
                check.due("bound in order", x.bound(e, i) > x.bound(e, i - 1) ? 1 : 0, 1);
            }
            check.due("the pitches of event " + e, sumOfPitches, 0);
        }
        check.due("plan() again", x.plan(), sum);
        x.write();
        check.due("the tab again", Check.tape(x), tab);
    }

    private static void readingEvents() {
        FretHands x = Check.withStrings(40, 45);
        dueEvents(x, "|3|\n|4|\n", 1);
        check.due("at(0, 0)", x.at(0, 0), 44);
        check.due("at(0, 1)", x.at(0, 1), 48);
        check.due("bound(0, 0)", x.bound(0, 0), 0);
        check.due("bound(0, 1)", x.bound(0, 1), 1);
        dueEvents(x, "|12|\n|--|\n", 1);
        check.due("at(0, 0) of 12", x.at(0, 0), 57);
        check.due("at(0, 1) of 12", x.at(0, 1), -1);
        check.due("bound(0, 0) of 12", x.bound(0, 0), 1);
        dueEvents(x, "|0---10|\n|-4-2--|\n", 4);
        check.due("at(1, 0)", x.at(1, 0), 44);
        check.due("at(3, 0)", x.at(3, 0), 55);
        x.capo(5);
        dueEvents(x, "|-7-|\n|-0-|\n", 1);
        check.due("at(0, 0) with CAPO", x.at(0, 0), 45);
        check.due("at(0, 1) with CAPO", x.at(0, 1), 57);
        FretHands z = Check.withStrings(40, 41, 42, 43, 44, 45, 46);
        dueEvents(z, "|1---|\n|---1|\n|1-1-|\n|---2|\n|--1-|\n|1--3|\n|--1-|\n", 3);
        check.due("seven strings: at(0, 0)", z.at(0, 0), 42);
        check.due("seven strings: bound(0, 2)", z.bound(0, 2), 6);
        check.due("seven strings: at(1, 0)", z.at(1, 0), 41);
        check.due("seven strings: at(2, 2)", z.at(2, 2), 46);
        check.due("a FAULT", Check.read(z, "|-3-|\n|-x-|\n"), -11);
        check.due("its place", z.place(), 8);
    }
}
