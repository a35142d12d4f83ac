/** Promises 20 to 22 in ordinary use: sign, tape, empty. */
public final class TapeTest {
    private static final Check check = new Check();

    public static void main(String[] args) {
        FretHands x = new FretHands();
        check.due("sign('a')", x.sign('a'), 1);
        check.due("sign('b')", x.sign('b'), 2);
        check.due("tape(0)", x.tape(0), 'a');
        check.due("tape(1)", x.tape(1), 'b');
        check.due("tape(2)", x.tape(2), -1);
        check.due("empty()", x.empty(), 2);
        check.due("tape(0) behind it", x.tape(0), -1);
        check.due("sign('c')", x.sign('c'), 1);
        check.due("tape(0) then", x.tape(0), 'c');
        check.end("TapeTest");
    }
}
