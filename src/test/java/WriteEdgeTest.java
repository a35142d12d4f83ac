/** The edges that promise 23 and the term TAB name, sentence by sentence. */
public final class WriteEdgeTest {
    private static final Check check = new Check();

    public static void main(String[] args) {
        writeWithoutAPlan();
        linesFromTheLastString();
        eventsInTheirOrder();
        numbersOfOneAndTwoDigits();
        numbersBehindCapo();
        numbersOfTwoLengths();
        chordsOfFour();
        longestTab();
        writeTakesTheOldTape();
        check.end("WriteEdgeTest");
    }

    private static void dueTab(FretHands x, String want) {
        check.due("write()", x.write(), want.length());
        check.due("told(4)", x.told(4), want.length());
        check.due("the TAB", Check.tape(x), want);
    }

    private static void dueRefused(String when, FretHands x) {
        x.empty();
        Check.type(x, "ab");
        check.due("write() " + when, x.write(), -4);
        check.due("THE TAPE stays", Check.tape(x), "ab");
    }

    private static void writeWithoutAPlan() {
        check.sentence("23: STATE: none is found");
        FretHands x = new FretHands();
        dueRefused("of a new object", x);
        x.string(40);
        dueRefused("without events", x);
        x.event(45);
        dueRefused("ahead of plan()", x);
        x.ties();
        dueRefused("behind ties() alone", x);
        x.plan();
        check.due("write() behind plan()", x.write(), 6);
        x.event(53);
        dueRefused("behind event()", x);
        check.due("plan()", x.plan(), -1);
        dueRefused("behind a plan() that found none", x);
        x.drop();
        dueRefused("behind drop()", x);
        x.plan();
        check.due("write() behind plan()", x.write(), 6);
        check.due("read()", x.read(), 1);
        dueRefused("behind read()", x);
    }

    private static void linesFromTheLastString() {
        check.sentence("Terms: A TAB is m lines, STRING m - 1 first, each ended by 10");
        for (int strings = 1; strings <= 7; strings++) {
            for (int s = 0; s < strings; s++) {
                FretHands x = new FretHands();
                StringBuilder want = new StringBuilder();
                for (int i = 0; i < strings; i++) {
                    x.string(40);
                    want.insert(0, i == s ? "|-5-|\n" : "|---|\n");
                }
                x.event(45);
                x.bind(0, 0, s);
                x.plan();
                dueTab(x, want.toString());
            }
        }
    }

    private static void eventsInTheirOrder() {
        check.sentence("Terms: 124, then for each EVENT 45 and so many signs more as its longest number has, then 45 and 124");
        FretHands x = Check.withStrings(40);
        StringBuilder want = new StringBuilder("|");
        for (int e = 0; e < 13; e++) {
            x.event(40 + e);
            want.append('-').append(e);
            x.plan();
            dueTab(x, want + "-|\n");
        }
    }

    private static void numbersOfOneAndTwoDigits() {
        check.sentence("Terms: as a number how many FRETS, without needless zeros");
        int[] frets = {0, 1, 9, 10, 19, 20, 24};
        for (int fret : frets) {
            FretHands x = Check.withStrings(40);
            x.neck(24);
            x.event(40 + fret);
            x.plan();
            dueTab(x, "|-" + fret + "-|\n");
        }
    }

    private static void numbersBehindCapo() {
        check.sentence("Terms: how many FRETS behind CAPO");
        int[][] ends = {{0, 0}, {0, 10}, {1, 1}, {1, 10}, {1, 11}, {5, 5}, {5, 14}, {5, 15}, {23, 23}, {23, 24}};
        for (int[] end : ends) {
            FretHands x = Check.withStrings(0, 40, 80);
            x.neck(24);
            x.capo(end[0]);
            x.event(40 + end[1]);
            x.plan();
            String number = "" + (end[1] - end[0]);
            String bare = "|-" + "-".repeat(number.length()) + "-|\n";
            dueTab(x, bare + "|-" + number + "-|\n" + bare);
        }
    }

    private static void numbersOfTwoLengths() {
        check.sentence("Terms: with 45s behind it, else 45s alone");
        FretHands x = Check.withStrings(40, 50, 60);
        Check.chord(x, 50, 59);
        Check.chord(x, 47);
        Check.chord(x, 72, 59);
        x.bind(0, 0, 0);
        x.bind(0, 1, 1);
        x.bind(2, 0, 2);
        x.bind(2, 1, 1);
        x.plan();
        dueTab(x, "|------12-|\n"
                + "|-9----9--|\n"
                + "|-10-7----|\n");
    }

    private static void chordsOfFour() {
        check.sentence("Terms: if a PITCH of the EVENT lies on that STRING");
        FretHands x = Check.withStrings(40, 45, 50, 55, 59, 64, 69);
        Check.chord(x, 72, 40, 60, 52);
        x.bind(0, 0, 6);
        x.bind(0, 1, 0);
        x.bind(0, 2, 4);
        x.bind(0, 3, 2);
        check.due("plan()", x.plan(), 3 + 1 + 1 + 2);
        dueTab(x, "|-3-|\n|---|\n|-1-|\n|---|\n|-2-|\n|---|\n|-0-|\n");
    }

    private static FretHands longest() {
        FretHands x = Check.withStrings(40, 40, 40, 40, 40, 40, 40);
        x.neck(24);
        Check.events(x, 40, 64);
        x.plan();
        check.due("write()", x.write(), 7 * 124);
        return x;
    }

    private static void longestTab() {
        check.sentence("23: how many signs it has (7 lines, 40 EVENTS with numbers of two digits)");
        // Equal strings, so all lie on string 0. A new object for each line: 512 calls are not more.
        for (int line = 0; line < 7; line++) {
            FretHands x = longest();
            StringBuilder got = new StringBuilder();
            for (int i = 0; i < 124; i++) {
                got.append((char) x.tape(line * 124 + i));
            }
            check.due("line " + line, got.toString(), "|" + (line == 6 ? "-24" : "---").repeat(40) + "-|\n");
            check.due("told(4)", x.told(4), 868);
            check.due("tape(868)", x.tape(868), -1);
        }
        FretHands x = longest();
        check.due("sign() behind it", x.sign(65), 869);
        check.due("read() of one sign too much", x.read(), -11);
        check.due("place()", x.place(), 868);
        x.write();
        check.due("read()", x.read(), 40);
        check.due("at(39, 0)", x.at(39, 0), 64);
        check.due("bound(39, 0)", x.bound(39, 0), 0);
    }

    private static void writeTakesTheOldTape() {
        check.sentence("23: THE TAPE is the TAB");
        FretHands x = Check.withStrings(40);
        x.event(45);
        x.plan();
        Check.type(x, "a longer tape than the tab");
        dueTab(x, "|-5-|\n");
        dueTab(x, "|-5-|\n");
        x.empty();
        dueTab(x, "|-5-|\n");
        check.due("tape(6)", x.tape(6), -1);
        check.due("planned(0, 0) behind write()", x.planned(0, 0), 3);
    }
}
