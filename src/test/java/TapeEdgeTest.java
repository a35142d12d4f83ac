/** The edges that promises 20 to 22 and the term THE TAPE name, sentence by sentence. */
public final class TapeEdgeTest {
    private static final int MIN = Integer.MIN_VALUE, MAX = Integer.MAX_VALUE;
    private static final Check check = new Check();

    public static void main(String[] args) {
        signBounds();
        signsTwoThousandAtMost();
        signBehindATab();
        tapeBounds();
        tapeOfAllSigns();
        emptyAnswersHowMany();
        emptyLeavesTheRest();
        check.end("TapeEdgeTest");
    }

    private static void signBounds() {
        check.sentence("20: how many it has. OUTSIDE (a sign is 1 to 127)");
        FretHands x = new FretHands();
        int[] outside = {0, 128, -1, 256 + 65, MIN, MAX};
        for (int c : outside) {
            check.due("sign(" + c + ")", x.sign(c), -2);
            check.due("told(4) behind it", x.told(4), 0);
        }
        check.due("sign(1)", x.sign(1), 1);
        check.due("sign(127)", x.sign(127), 2);
        check.due("sign(0) behind them", x.sign(0), -2);
        check.due("tape(0)", x.tape(0), 1);
        check.due("tape(1)", x.tape(1), 127);
        check.due("tape(2)", x.tape(2), -1);
    }

    /** Further than the 512 calls of the document: the room's end lies behind them. */
    private static void signsTwoThousandAtMost() {
        check.sentence("20: ROOM (2000 signs at most)");
        FretHands x = new FretHands();
        for (int i = 1; i <= 1999; i++) {
            x.sign(1 + i % 127);
        }
        check.due("the 2000th", x.sign(7), 2000);
        check.due("the 2001st", x.sign(8), -5);
        check.due("OUTSIDE ahead of ROOM", x.sign(0), -2);
        check.due("OUTSIDE ahead of ROOM", x.sign(128), -2);
        check.due("told(4)", x.told(4), 2000);
        check.due("tape(1999)", x.tape(1999), 7);
        check.due("tape(2000)", x.tape(2000), -1);
        check.due("empty()", x.empty(), 2000);
        check.due("sign() behind it", x.sign(9), 1);
    }

    private static void signBehindATab() {
        check.sentence("20: A sign comes behind THE TAPE");
        FretHands x = Check.withStrings(40);
        x.event(41);
        x.plan();
        check.due("write()", x.write(), 6);
        check.due("sign(65)", x.sign(65), 7);
        check.due("tape(5)", x.tape(5), 10);
        check.due("tape(6)", x.tape(6), 65);
        check.due("write() again", x.write(), 6);
        check.due("it is gone", x.tape(6), -1);
    }

    private static void tapeBounds() {
        check.sentence("21: Sign i of THE TAPE; NONE");
        FretHands x = new FretHands();
        int[] none = {-1, 0, 1, 1999, 2000, MIN, MAX};
        for (int i : none) {
            check.due("tape(" + i + ") of the empty one", x.tape(i), -1);
        }
        Check.type(x, "abc");
        int[] outside = {-1, 3, 4, 1999, 2000, MIN, MAX};
        for (int i : outside) {
            check.due("tape(" + i + ")", x.tape(i), -1);
        }
        check.due("tape(0)", x.tape(0), 'a');
        check.due("tape(2)", x.tape(2), 'c');
        x.empty();
        x.sign('d');
        check.due("tape(0) behind empty()", x.tape(0), 'd');
        check.due("tape(1) behind empty()", x.tape(1), -1);
    }

    private static void tapeOfAllSigns() {
        check.sentence("21: Sign i of THE TAPE, as it came");
        FretHands x = new FretHands();
        for (int c = 1; c <= 127; c++) {
            check.due("sign(" + c + ")", x.sign(c), c);
        }
        for (int i = 0; i < 127; i++) {
            check.due("tape(" + i + ")", x.tape(i), i + 1);
        }
    }

    private static void emptyAnswersHowMany() {
        check.sentence("22: THE TAPE is empty: how many signs it had");
        FretHands x = new FretHands();
        check.due("of a new object", x.empty(), 0);
        x.sign(65);
        check.due("of one sign", x.empty(), 1);
        check.due("of what empty() left", x.empty(), 0);
        check.due("told(4)", x.told(4), 0);
        for (int i = 0; i < 200; i++) {
            x.sign(65);
        }
        check.due("of 200 signs", x.empty(), 200);
        x.string(40);
        Check.type(x, "||\n");
        x.read();
        check.due("of what read() left", x.empty(), 0);
    }

    private static void emptyLeavesTheRest() {
        check.sentence("22: THE TAPE is empty, and nothing besides");
        FretHands x = Check.withStrings(40);
        x.event(45);
        check.due("a FAULT", Check.read(x, "|--"), -11);
        x.plan();
        x.write();
        check.due("empty()", x.empty(), 6);
        check.due("told(0)", x.told(0), 1);
        check.due("told(3)", x.told(3), 1);
        check.due("planned(0, 0)", x.planned(0, 0), 3);
        check.due("place()", x.place(), 3);
        check.due("write()", x.write(), 6);
    }
}
