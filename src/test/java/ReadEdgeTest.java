import java.util.function.Supplier;

/** The edges that promises 24 and 25 and the terms TO READ a TAB and its FAULTS name, sentence by sentence. */
public final class ReadEdgeTest {
    private static final Check check = new Check();

    public static void main(String[] args) {
        readWithoutStrings();
        tabsWithoutEvents();
        tabsCutShort();
        signsThatStandNowhere();
        firstSigns();
        signsBetweenTheBars();
        lineEnds();
        linesAsLongAsTheFirst();
        asManyLinesAsStrings();
        firstWrongSign();
        numbersTooLong();
        numbersWithNeedlessZeros();
        numbersUpToNeck();
        firstWrongNumber();
        numbersInASecondDigitsColumn();
        firstShiftedNumber();
        eventsOfFourPitches();
        eventsWithAPitchTwice();
        firstWrongEvent();
        fortyEvents();
        placeOfTheSurplusEvent();
        faultOneCounts();
        faultTwoCounts();
        faultThreeCounts();
        faultFourCounts();
        pitchesFromStringZeroOn();
        numbersSideBySide();
        lowestAndHighestPitch();
        eventsTakeThePlace();
        faultsLeaveTheEvents();
        placeOfTheLatest();
        placeStaysBehindOtherCalls();
        check.end("ReadEdgeTest");
    }

    /** Strings so far from one another that no two give the same pitch on a neck of 12. */
    private static FretHands apart(int strings) {
        FretHands x = new FretHands();
        for (int s = 0; s < strings; s++) {
            x.string(13 * s);
        }
        return x;
    }

    private static FretHands onNeck(int neck, int capo, int... strings) {
        FretHands x = Check.withStrings(strings);
        x.neck(neck);
        x.capo(capo);
        return x;
    }

    /** The FAULT that is due for a new object, at the sign behind the mark ^ (which is left out). */
    private static void dueFault(Supplier<FretHands> make, int fault, String marked) {
        FretHands x = make.get();
        check.due("read() of " + marked, Check.read(x, marked.replace("^", "")), -10 - fault);
        check.due("place() in " + marked, x.place(), marked.indexOf('^'));
        check.due("told(4) behind it", x.told(4), 0);
        check.due("told(3) behind it", x.told(3), 0);
    }

    private static FretHands dueEvents(Supplier<FretHands> make, int events, String text) {
        FretHands x = make.get();
        check.due("read() of " + text, Check.read(x, text), events);
        check.due("place() of " + text, x.place(), -1);
        check.due("told(4) behind it", x.told(4), 0);
        check.due("told(3) behind it", x.told(3), events);
        return x;
    }

    private static void dueChord(FretHands x, int event, int... pitchesAndStrings) {
        int size = pitchesAndStrings.length / 2;
        for (int i = 0; i < size; i++) {
            check.due("at(" + event + ", " + i + ")", x.at(event, i), pitchesAndStrings[2 * i]);
            check.due("bound(" + event + ", " + i + ")", x.bound(event, i), pitchesAndStrings[2 * i + 1]);
        }
        check.due("no PITCH more", x.at(event, size), -1);
    }

    private static void readWithoutStrings() {
        check.sentence("24: STATE: there are no STRINGS (THE TAPE stays)");
        FretHands x = new FretHands();
        check.due("read() of an empty TAPE", x.read(), -4);
        Check.type(x, "||\n");
        x.event(50);
        check.due("read()", x.read(), -4);
        check.due("THE TAPE", Check.tape(x), "||\n");
        check.due("told(3)", x.told(3), 1);
        check.due("place()", x.place(), -1);
        x.drop();
        x.string(40);
        check.due("read() with a string", x.read(), 0);
        check.due("a FAULT", Check.read(x, "||x"), -11);
        x.clear();
        Check.type(x, "||\n");
        check.due("read() behind clear()", x.read(), -4);
        check.due("nothing changes, so the place stays", x.place(), 2);
        check.due("THE TAPE stays", Check.tape(x), "||\n");
    }

    private static void tabsWithoutEvents() {
        check.sentence("24: how many EVENTS there are: none");
        for (int strings = 1; strings <= 7; strings++) {
            int m = strings;
            dueEvents(() -> apart(m), 0, "||\n".repeat(m));
            dueEvents(() -> apart(m), 0, "|-|\n".repeat(m));
            dueEvents(() -> apart(m), 0, "|-----|\n".repeat(m));
        }
    }

    private static void tabsCutShort() {
        check.sentence("FAULT 1: a sign (also the end) that can't stand there: the end");
        String[] tabs = {"||\n", "|-3-12-|\n", "|3-|\n|-4|\n", "|-|\n|-|\n|1|\n|-|\n|-|\n|-|\n|2|\n"};
        int[] strings = {1, 1, 2, 7};
        int[] events = {0, 2, 2, 1};
        for (int t = 0; t < tabs.length; t++) {
            int m = strings[t];
            for (int length = 0; length < tabs[t].length(); length++) {
                dueFault(() -> apart(m), 1, tabs[t].substring(0, length) + "^");
            }
            dueEvents(() -> apart(m), events[t], tabs[t]);
        }
    }

    private static void signsThatStandNowhere() {
        check.sentence("FAULT 1: a sign that can't stand there: one that stands nowhere");
        String tab = "|-3-12|\n|-----|\n|--4--|\n";
        char[] nowhere = {1, 9, 11, 13, ' ', ',', '.', '/', ':', 'A', 'x', '{', '}', 127};
        for (int i = 0; i < tab.length(); i++) {
            String before = tab.substring(0, i) + "^";
            for (char c : nowhere) {
                dueFault(() -> apart(3), 1, before + c + tab.substring(i + 1));
            }
            dueFault(() -> apart(3), 1, before + "x" + tab.substring(i));
        }
        dueFault(() -> apart(3), 1, tab + "^x");
    }

    private static void firstSigns() {
        check.sentence("FAULT 1: each line begins with 124");
        Supplier<FretHands> two = () -> apart(2);
        dueFault(two, 1, "^-|\n-|\n");
        dueFault(two, 1, "^3|\n3|\n");
        dueFault(two, 1, "^\n");
        dueFault(two, 1, "^\n|-|\n|-|\n");
        dueFault(two, 1, "|-|\n^--|\n");
        dueFault(two, 1, "|-|\n^3-|\n");
        dueFault(two, 1, "|-|\n^\n");
        dueFault(two, 1, "|-|\n^\n|-|\n");
    }

    private static void signsBetweenTheBars() {
        check.sentence("FAULT 1: between them digits (48 to 57) and 45");
        Supplier<FretHands> one = () -> apart(1);
        Supplier<FretHands> two = () -> apart(2);
        for (char digit = '0'; digit <= '9'; digit++) {
            dueEvents(one, 1, "|" + digit + "|\n");
            dueEvents(two, 1, "|-|\n|" + digit + "|\n");
        }
        String[] wrong = {"/", ":", ",", ".", "\n"};
        for (String sign : wrong) {
            dueFault(one, 1, "|^" + sign + "|\n");
            dueFault(one, 1, "|-^" + sign + "|\n");
            dueFault(two, 1, "|-|\n|^" + sign + "|\n");
            dueFault(two, 1, "|--|\n|-^" + sign + "|\n");
        }
        dueFault(two, 1, "|-|\n|^||\n");
        dueFault(two, 1, "|--|\n|-^||\n");
    }

    private static void lineEnds() {
        check.sentence("FAULT 1: each line ends with 124 and 10");
        Supplier<FretHands> two = () -> apart(2);
        dueFault(two, 1, "|-|^|\n|-|\n");
        dueFault(two, 1, "|-|^-|\n|---|\n");
        dueFault(two, 1, "|-|^3|\n");
        dueFault(two, 1, "||^|\n||\n");
        dueFault(two, 1, "|-|\n|-^-\n");
        dueFault(two, 1, "|-|\n|-^3\n");
        dueFault(two, 1, "|-|\n|-^\n");
        dueFault(two, 1, "|-|\n|-|^|");
        dueFault(two, 1, "|-|\n|-|^-|\n");
        dueFault(two, 1, "|-|\n|-|^3");
    }

    private static void linesAsLongAsTheFirst() {
        check.sentence("FAULT 1: the first line tells how long all are");
        Supplier<FretHands> three = () -> apart(3);
        dueFault(three, 1, "|--|\n|-^|\n|--|\n");
        dueFault(three, 1, "|--|\n|--^-|\n|--|\n");
        dueFault(three, 1, "|--|\n|--|\n|-^|\n");
        dueFault(three, 1, "|--|\n|--|\n|--^-|\n");
        dueFault(three, 1, "|--|\n|^|\n||\n");
        dueFault(three, 1, "||\n|^-|\n|-|\n");
        dueFault(three, 1, "||\n||\n|^3|\n");
        dueFault(three, 1, "|--|\n|--^3|\n|--3|\n");
    }

    private static void asManyLinesAsStrings() {
        check.sentence("FAULT 1: m lines, and there are no lines besides");
        for (int strings = 1; strings <= 7; strings++) {
            int m = strings;
            Supplier<FretHands> some = () -> apart(m);
            String lines = "|-|\n".repeat(m - 1);
            dueFault(some, 1, lines + "^");
            dueFault(some, 1, lines + "|1|\n^|-|\n");
            dueFault(some, 1, lines + "|1|\n^|");
            dueFault(some, 1, lines + "|1|\n^\n");
            dueFault(some, 1, lines + "|1|\n^-");
            dueEvents(some, 1, lines + "|1|\n");
        }
    }

    private static void firstWrongSign() {
        check.sentence("FAULT 1: at the first such");
        Supplier<FretHands> two = () -> apart(2);
        dueFault(two, 1, "|-^x-x|\n|x--|\n");
        dueFault(two, 1, "|---|\n|^x-\n");
        dueFault(two, 1, "^x|---|\n|---|\nx");
        dueFault(two, 1, "|-|\n|-|^x\n");
    }

    private static void numbersTooLong() {
        check.sentence("FAULT 2: a number of three digits or more (at its first digit)");
        Supplier<FretHands> two = () -> onNeck(24, 0, 10, 50);
        dueFault(two, 2, "|^100|\n|---|\n");
        dueFault(two, 2, "|---|\n|^100|\n");
        dueFault(two, 2, "|-^111-|\n|-----|\n");
        dueFault(two, 2, "|--^1111|\n|------|\n");
        dueFault(two, 2, "|^1111111111111|\n|-------------|\n");
        dueFault(two, 2, "|^99999999999|\n|-----------|\n");
        dueFault(two, 2, "|-11-^111|\n|-------|\n");
        dueEvents(two, 2, "|-11-1-|\n|------|\n");
    }

    private static void numbersWithNeedlessZeros() {
        check.sentence("FAULT 2: with a needless zero (at its first digit)");
        Supplier<FretHands> two = () -> onNeck(24, 0, 10, 50);
        for (int digit = 0; digit <= 9; digit++) {
            dueFault(two, 2, "|^0" + digit + "|\n|--|\n");
            dueFault(two, 2, "|---|\n|-^0" + digit + "|\n");
        }
        dueFault(two, 2, "|^000|\n|---|\n");
        dueFault(two, 2, "|^001|\n|---|\n");
        dueEvents(two, 1, "|0|\n|-|\n");
        dueEvents(two, 1, "|0-|\n|10|\n");
        dueEvents(two, 1, "|20|\n|--|\n");
        dueEvents(two, 2, "|0-0|\n|---|\n");
    }

    private static void numbersUpToNeck() {
        check.sentence("FAULT 2: beyond NECK (at its first digit)");
        int[][] ends = {{1, 0}, {2, 0}, {8, 0}, {9, 0}, {10, 0}, {12, 0}, {23, 0}, {24, 0},
                {12, 1}, {12, 2}, {12, 3}, {12, 11}, {24, 1}, {24, 14}, {24, 15}, {24, 22}, {24, 23}};
        for (int[] end : ends) {
            Supplier<FretHands> two = () -> onNeck(end[0], end[1], 10, 50);
            int last = end[0] - end[1];
            String bare = "-".repeat(("" + last).length());
            dueChord(dueEvents(two, 1, "|" + last + "|\n|" + bare + "|\n"), 0, 50 + end[0], 1);
            dueChord(dueEvents(two, 1, "|" + bare + "|\n|" + last + "|\n"), 0, 10 + end[0], 0);
            dueChord(dueEvents(two, 1, "|0|\n|-|\n"), 0, 50 + end[1], 1);
            int beyond = last + 1;
            String blank = "-".repeat(("" + beyond).length());
            dueFault(two, 2, "|-^" + beyond + "|\n|-" + blank + "|\n");
            dueFault(two, 2, "|-" + blank + "|\n|-^" + beyond + "|\n");
            dueFault(two, 2, "|^99|\n|--|\n");
        }
    }

    private static void firstWrongNumber() {
        check.sentence("FAULT 2: of these the first one on THE TAPE");
        Supplier<FretHands> three = () -> apart(3);
        dueFault(three, 2, "|-1-----^13|\n|-13------|\n|100------|\n");
        dueFault(three, 2, "|-^00-13-|\n|-------|\n|-------|\n");
        dueFault(three, 2, "|--------|\n|------^99|\n|-01-----|\n");
        dueFault(three, 2, "|--|\n|--|\n|^01|\n");
    }

    private static void numbersInASecondDigitsColumn() {
        check.sentence("FAULT 3: begins in a column in which another line's number has its second digit (at its first digit)");
        Supplier<FretHands> three = () -> apart(3);
        dueFault(three, 3, "|-10|\n|--^1|\n|---|\n");
        dueFault(three, 3, "|-10|\n|---|\n|--^1|\n");
        dueFault(three, 3, "|--^1|\n|-10|\n|---|\n");
        dueFault(three, 3, "|--^1|\n|---|\n|-10|\n");
        dueFault(three, 3, "|--^11|\n|-10-|\n|----|\n");
        dueFault(three, 3, "|-10-|\n|--^11|\n|----|\n");
        dueFault(three, 3, "|10|\n|-^0|\n|--|\n");
        dueFault(three, 3, "|10-|\n|10-|\n|-^12|\n");
        dueEvents(three, 1, "|-10|\n|-1-|\n|---|\n");
        dueEvents(three, 1, "|-10|\n|-11|\n|-12|\n");
        dueEvents(three, 2, "|-10-|\n|---1|\n|----|\n");
        dueEvents(three, 2, "|-10|\n|1--|\n|---|\n");
        dueEvents(three, 2, "|-10--|\n|---10|\n|-----|\n");
        dueEvents(three, 2, "|-1-|\n|--1|\n|---|\n");
    }

    private static void firstShiftedNumber() {
        check.sentence("FAULT 3: of these the first one on THE TAPE");
        Supplier<FretHands> three = () -> apart(3);
        dueFault(three, 3, "|------^1-|\n|--1--11-|\n|-11-----|\n");
        dueFault(three, 3, "|-10----|\n|--^1--1-|\n|----11-|\n");
        // Each line's number begins at the second digit of its neighbour's.
        dueFault(three, 3, "|10--|\n|-^11-|\n|--12|\n");
        dueFault(three, 3, "|--^12|\n|-11-|\n|10--|\n");
    }

    /** The rows of strings 0, 1, .., as they stand in a tab. */
    private static String tab(String[] rows) {
        StringBuilder text = new StringBuilder();
        for (int s = rows.length - 1; s >= 0; s--) {
            text.append(rows[s]);
        }
        return text.toString();
    }

    private static void eventsOfFourPitches() {
        check.sentence("FAULT 4: the EVENT of more than 4 PITCHES (at its number on the lowest STRING that has one)");
        Supplier<FretHands> seven = () -> apart(7);
        String[] rows = new String[7];
        for (int lowest = 0; lowest < 7; lowest++) {
            for (int s = 0; s < 7; s++) {
                rows[s] = s < lowest ? "|--|\n" : "|-1|\n";
            }
            int count = 7 - lowest;
            if (count <= 4) {
                FretHands x = dueEvents(seven, 1, tab(rows));
                check.due("its first PITCH", x.at(0, 0), 13 * lowest + 1);
                check.due("its last PITCH", x.at(0, count - 1), 13 * 6 + 1);
            } else {
                rows[lowest] = "|-^1|\n";
                dueFault(seven, 4, tab(rows));
            }
        }
        dueEvents(seven, 1, "|0|\n|-|\n|0|\n|-|\n|0|\n|-|\n|0|\n");
        dueFault(seven, 4, "|0|\n|0|\n|0|\n|-|\n|0|\n|-|\n|^0|\n");
        dueFault(seven, 4, "|0|\n|0|\n|0|\n|-|\n|0|\n|^0|\n|-|\n");
        dueEvents(seven, 2, "|0-|\n|0-|\n|0-|\n|0-|\n|-0|\n|-0|\n|-0|\n");
    }

    private static void eventsWithAPitchTwice() {
        check.sentence("FAULT 4: or with the same PITCH twice (at its number on the lowest STRING that has one)");
        Supplier<FretHands> fourths = () -> Check.withStrings(40, 45, 50);
        dueFault(fourths, 4, "|-0-|\n|-^5-|\n|---|\n");
        dueFault(fourths, 4, "|-0--|\n|----|\n|-^10-|\n");
        dueFault(fourths, 4, "|----|\n|-5--|\n|-^10-|\n");
        dueFault(fourths, 4, "|-0--|\n|-5--|\n|-^10-|\n");
        dueFault(fourths, 4, "|-0-|\n|-5-|\n|-^0-|\n");
        dueFault(fourths, 4, "|-2-|\n|-0-|\n|-^5-|\n");
        dueEvents(fourths, 1, "|-0-|\n|-4-|\n|-8-|\n");
        dueEvents(fourths, 2, "|-0---|\n|---5-|\n|-----|\n");
        dueEvents(fourths, 3, "|0----|\n|--5--|\n|----9|\n");
        dueFault(() -> onNeck(12, 3, 40, 45), 4, "|-0-|\n|-^5-|\n");
        Supplier<FretHands> equal = () -> Check.withStrings(40, 40);
        dueFault(equal, 4, "|0|\n|^0|\n");
        dueFault(equal, 4, "|12|\n|^12|\n");
        dueEvents(equal, 1, "|12|\n|11|\n");
        dueFault(() -> Check.withStrings(50, 40), 4, "|10|\n|^0-|\n");
    }

    private static void firstWrongEvent() {
        check.sentence("FAULT 4: of these the first one on THE TAPE");
        Supplier<FretHands> fourths = () -> Check.withStrings(40, 45, 50);
        dueFault(fourths, 4, "|-0---0-|\n|-^5---5-|\n|-------|\n");
        dueFault(fourths, 4, "|-----0-|\n|-0---^5-|\n|-5-----|\n");
        dueFault(fourths, 4, "|-0-----|\n|-^5---0-|\n|-----5-|\n");
        // The first event has a pitch twice, the second one too many, none of them on string 0.
        dueFault(() -> Check.withStrings(40, 41, 42, 43, 44, 50), 4,
                "|---1|\n|4--1|\n|---1|\n|---1|\n|---^1|\n|8---|\n");
    }

    private static void fortyEvents() {
        check.sentence("FAULT 5: the 41st EVENT");
        Supplier<FretHands> one = () -> apart(1);
        dueChord(dueEvents(one, 40, "|" + "1-".repeat(39) + "2|\n"), 39, 2, 0);
        dueFault(one, 5, "|" + "1-".repeat(40) + "^1|\n");
        dueFault(one, 5, "|" + "1-".repeat(40) + "^1-1-1|\n");
        dueFault(one, 5, "|" + "1-".repeat(40) + "-----^12|\n");
        Supplier<FretHands> two = () -> apart(2);
        dueEvents(two, 40, "|" + "1-".repeat(20) + "|\n|" + "-1".repeat(20) + "|\n");
        dueFault(two, 5, "|" + "1-".repeat(20) + "^1|\n|" + "-1".repeat(20) + "-|\n");
        dueFault(two, 5, "|" + "-1".repeat(20) + "-|\n|" + "1-".repeat(20) + "^1|\n");
    }

    private static void placeOfTheSurplusEvent() {
        check.sentence("FAULT 5: at the first digit of its number on the lowest STRING that has one");
        Supplier<FretHands> three = () -> apart(3);
        String many = "1-".repeat(40);
        String bare = "--".repeat(40);
        dueFault(three, 5, "|" + many + "1-|\n|" + bare + "1-|\n|" + bare + "^10|\n");
        dueFault(three, 5, "|" + bare + "1-|\n|" + bare + "^1-|\n|" + many + "--|\n");
        dueFault(three, 5, "|" + bare + "^1-|\n|" + many + "--|\n|" + bare + "--|\n");
        // The 42nd event comes first on the tape, but the 41st counts.
        dueFault(three, 5, "|" + bare + "--1|\n|" + many + "---|\n|" + bare + "^1--|\n");
    }

    private static Supplier<FretHands> fiveApart() {
        return () -> Check.withStrings(40, 45);
    }

    private static void faultOneCounts() {
        check.sentence("FAULTS: That of the least number counts: 1");
        dueFault(fiveApart(), 1, "|100|\n|---|\n^x");
        dueFault(fiveApart(), 1, "|10|\n|-1|\n^x");
        dueFault(fiveApart(), 1, "|0|\n|5|\n^\n");
        dueFault(fiveApart(), 1, "|" + "1-".repeat(41) + "|\n^");
    }

    private static void faultTwoCounts() {
        check.sentence("FAULTS: That of the least number counts: 2");
        dueFault(fiveApart(), 2, "|10----|\n|-1-^13-|\n");
        dueFault(fiveApart(), 2, "|-1----|\n|10-^13-|\n");
        dueFault(fiveApart(), 2, "|0---|\n|5-^00|\n");
        dueFault(fiveApart(), 2, "|" + "1-".repeat(41) + "--|\n|" + "--".repeat(41) + "^13|\n");
        // Behind a number that is too long a column has no second digit that would count.
        dueFault(fiveApart(), 2, "|^123-|\n|-1--|\n");
        dueFault(fiveApart(), 2, "|-1--|\n|^123-|\n");
    }

    private static void faultThreeCounts() {
        check.sentence("FAULTS: That of the least number counts: 3");
        dueFault(fiveApart(), 3, "|0--10|\n|5---^1|\n");
        dueFault(fiveApart(), 3, "|0--^1-|\n|5-10-|\n");
        dueFault(fiveApart(), 3, "|" + "1-".repeat(41) + "10|\n|" + "--".repeat(41) + "-^1|\n");
    }

    private static void faultFourCounts() {
        check.sentence("FAULTS: That of the least number counts: 4");
        dueFault(fiveApart(), 4, "|" + "1-".repeat(41) + "0|\n|" + "--".repeat(41) + "^5|\n");
        dueFault(fiveApart(), 4, "|" + "1-".repeat(40) + "0|\n|" + "--".repeat(40) + "^5|\n");
        // The 41st event comes first on the tape, the one with a pitch twice behind it.
        dueFault(fiveApart(), 4, "|0-" + "1-".repeat(40) + "|\n|^5-" + "--".repeat(40) + "|\n");
    }

    private static void pitchesFromStringZeroOn() {
        check.sentence("24: its PITCHES from STRING 0 on, each BOUND to its STRING");
        FretHands x = dueEvents(() -> Check.withStrings(60, 50, 40, 30, 20, 10, 0), 3,
                "|1--|\n|-2-|\n|3--|\n|-4-|\n|5-6|\n|-7-|\n|8--|\n");
        dueChord(x, 0, 68, 0, 45, 2, 23, 4, 1, 6);
        dueChord(x, 1, 57, 1, 34, 3, 12, 5);
        dueChord(x, 2, 46, 2);
    }

    private static void numbersSideBySide() {
        check.sentence("Terms: Digits side by side are a number; numbers that begin in the same column are an EVENT");
        Supplier<FretHands> two = () -> Check.withStrings(40, 60);
        FretHands x = dueEvents(two, 1, "|12|\n|1-|\n");
        dueChord(x, 0, 41, 0, 72, 1);
        x = dueEvents(two, 2, "|1-|\n|-2|\n");
        dueChord(x, 0, 61, 1);
        dueChord(x, 1, 42, 0);
        x = dueEvents(two, 3, "|1-2|\n|-3-|\n");
        dueChord(x, 0, 61, 1);
        dueChord(x, 1, 43, 0);
        dueChord(x, 2, 62, 1);
        x = dueEvents(two, 2, "|10-11|\n|9--0-|\n");
        dueChord(x, 0, 49, 0, 70, 1);
        dueChord(x, 1, 40, 0, 71, 1);
    }

    private static void lowestAndHighestPitch() {
        check.sentence("24: how many FRETS behind CAPO: the lowest and the highest PITCH");
        dueChord(dueEvents(() -> onNeck(24, 0, 0, 99), 1, "|24|\n|0-|\n"), 0, 0, 0, 123, 1);
        dueChord(dueEvents(() -> onNeck(24, 23, 0, 99), 1, "|1|\n|0|\n"), 0, 23, 0, 123, 1);
        FretHands x = dueEvents(() -> onNeck(24, 4, 0, 99), 1, "|20|\n|20|\n");
        dueChord(x, 0, 24, 0, 123, 1);
        check.due("it has GRIPS", x.grips(0), 4);
    }

    private static void eventsTakeThePlace() {
        check.sentence("24: how many EVENTS there are, which take the place of those that were");
        FretHands x = Check.withStrings(40, 60);
        Check.events(x, 38, 50);
        Check.chord(x, 45, 46, 47, 48);
        x.bind(38, 3, 1);
        check.due("read()", Check.read(x, "|-1-|\n|---|\n"), 1);
        check.due("told(3)", x.told(3), 1);
        dueChord(x, 0, 61, 1);
        check.due("at(1, 0)", x.at(1, 0), -3);
        check.due("at(38, 0)", x.at(38, 0), -3);
        check.due("event(50)", x.event(50), 1);
        dueChord(x, 1, 50, -1);
        check.due("pitch(51)", x.pitch(51), 2);
        check.due("read() of none", Check.read(x, "||\n||\n"), 0);
        check.due("told(3)", x.told(3), 0);
        check.due("at(0, 0)", x.at(0, 0), -3);
        check.due("drop()", x.drop(), -4);
        x.event(41);
        x.plan();
        check.due("the plan's own tab", x.write(), 12);
        check.due("read() of it", x.read(), 1);
        dueChord(x, 0, 41, 0);
    }

    private static void faultsLeaveTheEvents() {
        check.sentence("24: a FAULT below 0 (- 10 less its number; they stay)");
        String bare = "|" + "-".repeat(82) + "|\n";
        String[] faults = {"x", "|00|\n|--|\n|--|\n", "|-1|\n|10|\n|--|\n", "|0|\n|5|\n|-|\n",
                "|" + "-1".repeat(41) + "|\n" + bare + bare};
        for (int fault = 1; fault <= 5; fault++) {
            FretHands x = Check.withStrings(40, 45, 50);
            Check.chord(x, 50, 46);
            Check.chord(x, 51);
            x.bind(0, 0, 2);
            check.due("read() with FAULT " + fault, Check.read(x, faults[fault - 1]), -10 - fault);
            check.due("told(3)", x.told(3), 2);
            dueChord(x, 0, 50, 2, 46, -1);
            dueChord(x, 1, 51, -1);
            check.due("THE TAPE is empty then", x.told(4), 0);
            check.due("tape(0)", x.tape(0), -1);
        }
    }

    private static void placeOfTheLatest() {
        check.sentence("25: The place of the FAULT of the latest read(); NONE: it had none");
        FretHands x = new FretHands();
        check.due("ahead of any read()", x.place(), -1);
        x.string(40);
        check.due("with a string", x.place(), -1);
        check.due("a FAULT at 0", Check.read(x, ""), -11);
        check.due("place() of it", x.place(), 0);
        check.due("a FAULT at 1", Check.read(x, "|"), -11);
        check.due("place() of it", x.place(), 1);
        check.due("a FAULT 2 at 2", Check.read(x, "|-13|\n"), -12);
        check.due("place() of it", x.place(), 2);
        check.due("place() again", x.place(), 2);
        check.due("no FAULT", Check.read(x, "|-12|\n"), 1);
        check.due("place() of none", x.place(), -1);
        check.due("a FAULT of the empty TAPE", x.read(), -11);
        check.due("place() of it", x.place(), 0);
        check.due("no EVENTS, no FAULT", Check.read(x, "||\n"), 0);
        check.due("place() of none", x.place(), -1);
    }

    private static void placeStaysBehindOtherCalls() {
        check.sentence("25: of the latest read(), whatever was called since");
        FretHands x = Check.withStrings(40);
        check.due("a FAULT", Check.read(x, "|-3-x"), -11);
        x.sign(65);
        check.due("behind sign()", x.place(), 4);
        x.empty();
        check.due("behind empty()", x.place(), 4);
        x.event(45);
        check.due("behind event()", x.place(), 4);
        x.plan();
        x.write();
        check.due("behind write()", x.place(), 4);
        x.clear();
        check.due("behind clear()", x.place(), 4);
        check.due("read() that is refused", x.read(), -4);
        check.due("behind it", x.place(), 4);
    }
}
