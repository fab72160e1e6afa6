/** Promises 15 to 18: one run with decisions, and what is kept of it. */
public final class RunsTest {
    private static final Check CHECK = new Check();

    public static void main(String[] args) {
        decisionsInTheirOrder();
        onlyWhatIsOpenTakesDecisions();
        decisionsComeRoundAfter32();
        faultsAreCountedEachTime();
        breaks();
        aRunBeginsAnew();
        CHECK.finish();
    }

    private static void results(String when, DefiniteDesk desk, int set, int visited, int faults) {
        CHECK.due(when + ": runSet", desk.runSet(), set);
        CHECK.due(when + ": runVisited", desk.runVisited(), visited);
        CHECK.due(when + ": runFaults", desk.runFaults(), faults);
    }

    private static void decisionsInTheirOrder() {
        // TRY 0, PEEK 1 and ASK take decisions 0, 1 and 2.
        int[] program = {Token.IF, Token.TRY, Token.IF, Token.PEEK + 1, Token.SET + 1, Token.SET + 2,
            Token.IF, Token.ASK, Token.SET + 3, Token.SKIP};
        DefiniteDesk desk = Desks.with(program);
        CHECK.due("true, true", desk.run(3), 5);
        results("true, true", desk, 3, Desks.bits(0, 1, 2, 3, 4), 1);
        CHECK.due("true, false", desk.run(1), 5);
        results("true, false", desk, 5, Desks.bits(0, 1, 2, 3, 5), 1);
        CHECK.due("false, true", desk.run(2), 5);
        results("false, true", desk, 9, Desks.bits(0, 1, 6, 7, 8), 0);
        CHECK.due("false, false", desk.run(0), 5);
        results("false, false", desk, 1, Desks.bits(0, 1, 6, 7, 9), 0);
        CHECK.due("higher bits do not count", desk.run(~3), 5);
        results("higher bits do not count", desk, 1, Desks.bits(0, 1, 6, 7, 9), 0);
    }

    private static void onlyWhatIsOpenTakesDecisions() {
        // YES, NO and NOT take none: the ASK has decision 0 whatever stands before it.
        int[] program = {Token.PAIR, Token.SET, Token.IF, Token.BOTH, Token.YES, Token.NOT, Token.ANY,
            Token.NO, Token.ASK, Token.SET + 1, Token.SET + 2};
        DefiniteDesk desk = Desks.with(program);
        CHECK.due("true: run", desk.run(1), 10);
        results("true", desk, 5, Desks.bits(0, 1, 2, 3, 4, 5, 6, 7, 8, 10), 0);
        CHECK.due("false: run", desk.run(-2), 10);
        results("false", desk, 3, Desks.bits(0, 1, 2, 3, 4, 5, 6, 7, 8, 9), 0);
    }

    private static void decisionsComeRoundAfter32() {
        // Three visits for each true decision, and two for the false one.
        DefiniteDesk desk = Desks.with(Token.LOOP, Token.ASK, Token.SKIP);
        CHECK.due("bit 31 is false", desk.run(0x7fffffff), 31 * 3 + 2);
        CHECK.due("no bit is false", desk.run(-1), 100);
        // Four decisions and nine visits a turn: turn 7 has bits 28 to 31, turn 8 bits 0 to 3.
        desk = Desks.with(Token.LOOP, Token.BOTH, Token.ASK, Token.BOTH, Token.ASK,
            Token.BOTH, Token.ASK, Token.ASK, Token.SKIP);
        CHECK.due("turn 7 sees bit 31", desk.run(0x7fffffff), 7 * 9 + 8);
        CHECK.due("turn 8 sees bits 0 to 3 again", desk.run(-1), 100);
        // Two decisions and five visits a turn: it goes on when the even one is false and the odd one true.
        desk = Desks.with(Token.LOOP, Token.PICK, Token.ASK, Token.NO, Token.ASK, Token.SKIP);
        CHECK.due("turn 16 sees bits 0 and 1 again", desk.run(0xaaaaaaaa), 100);
        CHECK.due("turn 15 sees bit 31", desk.run(0x2aaaaaaa), 15 * 5 + 4);
        // Three decisions and eight visits a turn: it goes on with false, true, true. Turn 10 takes
        // bits 30 and 31, which let it go on, and then bit 0, which was right as decision 0 only.
        desk = Desks.with(Token.LOOP, Token.BOTH, Token.NOT, Token.ASK, Token.BOTH, Token.ASK, Token.ASK, Token.SKIP);
        CHECK.due("decision 32 is bit 0", desk.run(0xb6db6db6), 10 * 8 + 7);
    }

    private static void faultsAreCountedEachTime() {
        DefiniteDesk desk = Desks.with(Token.LOOP, Token.PEEK, Token.USE + 1);
        CHECK.due("faults: run(7)", desk.run(7), 11);
        results("faults", desk, 0, 7, 7);
        CHECK.due("most faults: run(-1)", desk.run(-1), 100);
        results("most faults", desk, 0, 7, 66);
        desk = Desks.with(Token.LOOP, Token.TRY, Token.PAIR, Token.USE, Token.USE + 1);
        CHECK.due("set ones are no faults: run(3)", desk.run(3), 12);
        results("set ones are no faults", desk, 1, 31, 2);
    }

    private static void breaks() {
        DefiniteDesk desk = Desks.with(Token.PAIR, Token.BREAK, Token.SET);
        CHECK.due("BREAK ends the program: run", desk.run(-1), 2);
        results("BREAK ends the program", desk, 0, 3, 0);
        desk = Desks.with(Token.PAIR, Token.LOOP, Token.YES, Token.PAIR, Token.BREAK, Token.SET, Token.SET + 1);
        CHECK.due("BREAK leaves the LOOP: run", desk.run(0), 6);
        results("BREAK leaves the LOOP", desk, 2, Desks.bits(0, 1, 2, 3, 4, 6), 0);
    }

    private static void aRunBeginsAnew() {
        DefiniteDesk desk = Desks.with(Token.IF, Token.ASK, Token.SET, Token.USE);
        for (int i = 0; i < 3; i++) {
            CHECK.due("anew: run(1)", desk.run(1), 3);
            results("anew, true", desk, 1, 7, 0);
            CHECK.due("anew: run(0)", desk.run(0), 3);
            results("anew, false", desk, 0, 11, 1);
        }
        CHECK.due("a run does not touch the walks", desk.perhapsAtEnd(), 1);
    }
}
