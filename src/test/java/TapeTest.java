/** Promises 20 to 22: sign, tape, empty. */
public final class TapeTest {
    private static final Check check = new Check();

    public static void main(String[] args) {
        signs();
        emptying();
        room();
        check.end("TapeTest");
    }

    private static void signs() {
        FretHands x = new FretHands();
        check.due("sign(0)", x.sign(0), -2);
        check.due("sign(128)", x.sign(128), -2);
        check.due("sign(-1)", x.sign(-1), -2);
        check.due("told(4) behind refused ones", x.told(4), 0);
        check.due("sign(1)", x.sign(1), 1);
        check.due("sign(127)", x.sign(127), 2);
        check.due("sign(10)", x.sign(10), 3);
        check.due("tape(0)", x.tape(0), 1);
        check.due("tape(1)", x.tape(1), 127);
        check.due("tape(2)", x.tape(2), 10);
        check.due("tape(3)", x.tape(3), -1);
        check.due("tape(-1)", x.tape(-1), -1);
        check.due("tape(MIN)", x.tape(Integer.MIN_VALUE), -1);
        check.due("tape(MAX)", x.tape(Integer.MAX_VALUE), -1);
    }

    private static void emptying() {
        FretHands x = new FretHands();
        check.due("empty() of none", x.empty(), 0);
        Check.type(x, "abc");
        check.due("empty()", x.empty(), 3);
        check.due("tape(0)", x.tape(0), -1);
        check.due("told(4)", x.told(4), 0);
        check.due("sign() behind it", x.sign(65), 1);
        check.due("tape(0) behind it", x.tape(0), 65);
    }

    /** Further than the 512 calls of the document, to see that the room's end is guarded. */
    private static void room() {
        FretHands x = new FretHands();
        for (int i = 1; i <= 2000; i++) {
            check.due("sign " + i, x.sign(33 + i % 90), i);
        }
        check.due("the 2001st sign", x.sign(65), -5);
        check.due("the 2001st sign, a wrong one", x.sign(0), -2);
        check.due("told(4)", x.told(4), 2000);
        check.due("tape(1999)", x.tape(1999), 33 + 2000 % 90);
        check.due("tape(2000)", x.tape(2000), -1);
        x.string(40);
        check.due("read() of a full tape", x.read(), -11);
        check.due("told(4) behind it", x.told(4), 0);
    }
}
