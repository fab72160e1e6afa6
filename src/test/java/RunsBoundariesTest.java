import java.util.ArrayList;
import java.util.List;

/** The boundary cases that promises 15 to 18 name, sentence by sentence. */
public final class RunsBoundariesTest {
    private static final Check CHECK = new Check();
    private static final int NONE = DefiniteDesk.NONE;

    public static void main(String[] args) {
        decisionsFrom0();
        decisionsUpTo31();
        decisionsRoundAfter32();
        onlyWhatIsOpenTakesADecision();
        stopsWhenOver();
        stopsAfter100();
        overAround100();
        the100thIsCarriedOut();
        answersEachVisit();
        noneWhenIncomplete();
        keptOverARefusedRun();
        keptTillTheNextRun();
        keptOverChanges();
        runSetByBit();
        runSetWithoutARun();
        runVisitedByBit();
        runVisitedWithoutARun();
        runFaultsEachTime();
        runFaultsWithoutARun();
        CHECK.finish();
    }

    private static void results(String when, DefiniteDesk desk, int set, int visited, int faults) {
        CHECK.due(when + ": runSet", desk.runSet(), set);
        CHECK.due(when + ": runVisited", desk.runVisited(), visited);
        CHECK.due(when + ": runFaults", desk.runFaults(), faults);
    }

    private static void decisionsFrom0() {
        CHECK.sentence("the n-th thing that is true or false as it happens (n from 0)");
        int[] open = {Token.ASK, Token.TRY + 1, Token.PEEK + 2};
        for (int token : open) {
            DefiniteDesk desk = Desks.with(Token.IF, token, Token.SKIP, Token.SKIP);
            desk.run(1);
            CHECK.due("token " + token + ", bit 0 alone is 1", desk.runVisited(), 7);
            desk.run(~1);
            CHECK.due("token " + token + ", bit 0 alone is 0", desk.runVisited(), 11);
            // Another run begins with decision 0 again.
            desk.run(1);
            CHECK.due("token " + token + ", next run", desk.runVisited(), 7);
        }
    }

    private static void decisionsUpTo31() {
        CHECK.sentence("true when bit (n mod 32) of decisions is 1, n 0 .. 31");
        DefiniteDesk desk = Desks.with(Token.LOOP, Token.ASK, Token.SKIP);
        DefiniteDesk turned = Desks.with(Token.LOOP, Token.NOT, Token.ASK, Token.SKIP);
        for (int n = 0; n <= 31; n++) {
            CHECK.due("bit " + n + " alone is 0", desk.run(~(1 << n)), 3 * n + 2);
        }
        for (int n = 0; n <= 24; n++) {
            CHECK.due("bit " + n + " alone is 1", turned.run(1 << n), 4 * n + 3);
        }
        CHECK.due("all are 1", desk.run(-1), 100);
        CHECK.due("all are 0", turned.run(0), 100);
        CHECK.due("least int: bit 0 is 0", desk.run(Integer.MIN_VALUE), 2);
        CHECK.due("greatest int: bit 31 is 0", desk.run(Integer.MAX_VALUE), 95);
    }

    /**
     * A LOOP goes on while each of its nine decisions a turn is true, the one at the place turned
     * false. Decisions 0 .. 31 are such; decision 32 + j is bit j, which was right at place
     * j mod 9 but stands now at place (j + 5) mod 9. The first one that is wrong there is known.
     */
    private static void decisionsRoundAfter32() {
        CHECK.sentence("true when bit (n mod 32) of decisions is 1, n over 31");
        for (int turned = 0; turned < 9; turned++) {
            DefiniteDesk desk = Desks.with(Token.LOOP);
            for (int place = 0; place < 9; place++) {
                if (place < 8) {
                    desk.feed(Token.BOTH);
                }
                if (place == turned) {
                    desk.feed(Token.NOT);
                }
                desk.feed(Token.ASK);
            }
            desk.feed(Token.SKIP);
            CHECK.due("tokens", desk.length(), 20);
            int decisions = 0;
            for (int n = 0; n < 32; n++) {
                decisions |= n % 9 == turned ? 0 : 1 << n;
            }
            int wrong = 32 + Math.min(turned, (turned + 4) % 9);
            int place = wrong % 9;
            int boths = Math.min(place + 1, 8);
            int visits = wrong / 9 * 20 + 1 + boths + place + 1 + (turned <= place ? 1 : 0);
            CHECK.due("decision " + wrong + " is bit " + (wrong - 32), desk.run(decisions), visits);
        }
    }

    private static void onlyWhatIsOpenTakesADecision() {
        CHECK.sentence("the n-th thing that is true or false as it happens");
        int[] others = {Token.YES, Token.NO};
        for (int token : others) {
            // IF (PICK token ASK ASK) SKIP SKIP
            DefiniteDesk desk = Desks.with(Token.IF, Token.PICK, token, Token.ASK, Token.ASK, Token.SKIP, Token.SKIP);
            int visited = token == Token.YES ? 15 : 23;
            desk.run(1);
            CHECK.due("behind " + token + ", true", desk.runVisited(), visited | 32);
            desk.run(2);
            CHECK.due("behind " + token + ", false", desk.runVisited(), visited | 64);
        }
        int[] statements = {Token.SKIP, Token.SET, Token.USE};
        for (int token : statements) {
            DefiniteDesk desk = Desks.with(Token.PAIR, token, Token.IF, Token.ASK, Token.SKIP, Token.SKIP);
            desk.run(1);
            CHECK.due("behind " + token + ", true", desk.runVisited(), 31);
            desk.run(2);
            CHECK.due("behind " + token + ", false", desk.runVisited(), 47);
        }
        // What is not visited takes none: the ASK behind it has decision 1, not 2.
        DefiniteDesk desk = Desks.with(Token.PAIR, Token.LOOP, Token.BOTH, Token.ASK, Token.ASK, Token.SKIP,
            Token.IF, Token.ASK, Token.SKIP, Token.SKIP);
        desk.run(2);
        CHECK.due("behind an ASK that is not visited, true", desk.runVisited(), Desks.bits(0, 1, 2, 3, 6, 7, 8));
        desk.run(4);
        CHECK.due("behind an ASK that is not visited, false", desk.runVisited(), Desks.bits(0, 1, 2, 3, 6, 7, 9));
    }

    private static void stopsWhenOver() {
        CHECK.sentence("Stops when the program is over");
        CHECK.due("one token", Desks.with(Token.SKIP).run(0), 1);
        CHECK.due("a BREAK", Desks.with(Token.PAIR, Token.BREAK, Token.SKIP).run(0), 2);
        CHECK.due("a LOOP that is over", Desks.with(Token.LOOP, Token.NO, Token.SKIP).run(0), 2);
        CHECK.due("a LOOP that is left", Desks.with(Token.LOOP, Token.YES, Token.BREAK).run(0), 3);
    }

    private static void stopsAfter100() {
        CHECK.sentence("Stops when .. 100 tokens were visited");
        DefiniteDesk desk = Desks.with(Token.LOOP, Token.YES, Token.SKIP);
        CHECK.due("endless, decisions 0", desk.run(0), 100);
        results("endless", desk, 0, 7, 0);
        CHECK.due("endless, decisions -1", desk.run(-1), 100);
        // Two of three visits are faults, the 100th is not.
        desk = Desks.with(Token.LOOP, Token.PEEK, Token.USE + 1);
        CHECK.due("endless with faults", desk.run(-1), 100);
        results("endless with faults", desk, 0, 7, 66);
    }

    /** Pairs of PAIR and SKIP, then PAIR (LOOP ASK SKIP) (SET 3): 2 * pairs + 3 * true ones + 4 visits in all. */
    private static DefiniteDesk endingWithASet(int pairs) {
        DefiniteDesk desk = new DefiniteDesk();
        for (int i = 0; i < pairs; i++) {
            desk.feed(Token.PAIR);
            desk.feed(Token.SKIP);
        }
        int[] last = {Token.PAIR, Token.LOOP, Token.ASK, Token.SKIP, Token.SET + 3};
        for (int token : last) {
            desk.feed(token);
        }
        return desk;
    }

    private static void overAround100() {
        CHECK.sentence("Stops when the program is over or 100 tokens were visited, around 100");
        int true30 = 0x3fffffff;
        int true31 = 0x7fffffff;
        DefiniteDesk desk = endingWithASet(2);
        CHECK.due("98: run", desk.run(true30), 98);
        results("98", desk, 8, 0x1ff, 0);
        desk = endingWithASet(1);
        CHECK.due("99: run", desk.run(true31), 99);
        results("99", desk, 8, 0x7f, 0);
        desk = endingWithASet(3);
        CHECK.due("100: run", desk.run(true30), 100);
        results("100", desk, 8, 0x7ff, 0);
        desk = endingWithASet(2);
        CHECK.due("101: run", desk.run(true31), 100);
        results("101", desk, 0, 0xff, 0);
        desk = endingWithASet(4);
        CHECK.due("102: run", desk.run(true30), 100);
        results("102", desk, 0, 0xfff, 0);
    }

    /** Runs a program in which 99 visits come before the last token: 9 + 29 * 3 + 2 of a LOOP + the head. */
    private static DefiniteDesk ranWith100th(int head, int last) {
        DefiniteDesk desk = new DefiniteDesk();
        for (int i = 0; i < 4; i++) {
            desk.feed(Token.PAIR);
            desk.feed(Token.SKIP);
        }
        int[] rest = {Token.PAIR, Token.LOOP, Token.ASK, Token.SKIP, head, last, Token.SET + 1, Token.SET + 1};
        for (int token : rest) {
            desk.feed(token);
        }
        CHECK.due("complete", desk.complete(), true);
        CHECK.due("run", desk.run(0x1fffffff), 100);
        CHECK.due("runVisited", desk.runVisited(), (1 << 14) - 1);
        return desk;
    }

    private static void the100thIsCarriedOut() {
        CHECK.sentence("the 100th is still carried out");
        CHECK.due("SET: runSet", ranWith100th(Token.PAIR, Token.SET + 2).runSet(), 4);
        CHECK.due("TRY: runSet", ranWith100th(Token.IF, Token.TRY + 2).runSet(), 4);
        CHECK.due("USE: runFaults", ranWith100th(Token.PAIR, Token.USE + 2).runFaults(), 1);
        CHECK.due("PEEK: runFaults", ranWith100th(Token.IF, Token.PEEK + 2).runFaults(), 1);
        CHECK.due("the 101st is not: runSet", ranWith100th(Token.PAIR, Token.USE + 2).runSet(), 0);
    }

    private static void answersEachVisit() {
        CHECK.sentence("Answers the number of tokens visited");
        DefiniteDesk desk = Desks.with(Token.LOOP, Token.ASK, Token.SKIP);
        CHECK.due("a token counts each time", desk.run(3), 8);
        CHECK.due("three tokens were visited", desk.runVisited(), 7);
    }

    /** Programs that are not complete: no token, too few, 22, one taken back, all taken away. */
    private static List<DefiniteDesk> incompleteOnes() {
        List<DefiniteDesk> desks = new ArrayList<>();
        desks.add(new DefiniteDesk());
        desks.add(Desks.with(Token.PAIR, Token.SET));
        DefiniteDesk full = Desks.with(Token.PAIR, Token.USE);
        for (int k = 2; k < 22; k++) {
            full.feed(Token.PAIR);
        }
        desks.add(full);
        DefiniteDesk takenBack = Desks.with(Token.PAIR, Token.USE, Token.SET);
        takenBack.back();
        desks.add(takenBack);
        DefiniteDesk cleared = Desks.with(Token.PAIR, Token.USE, Token.SET);
        cleared.clear();
        desks.add(cleared);
        return desks;
    }

    private static void noneWhenIncomplete() {
        CHECK.sentence("run: NONE when the program is not complete");
        int[] offered = {0, 1, -1, Integer.MIN_VALUE, Integer.MAX_VALUE};
        for (DefiniteDesk desk : incompleteOnes()) {
            for (int decisions : offered) {
                CHECK.due(desk.length() + " tokens, run(" + decisions + ")", desk.run(decisions), NONE);
            }
        }
    }

    /** PAIR (SET 1) (USE 0), run: variable 1 set, three tokens visited, one fault. */
    private static DefiniteDesk ran() {
        DefiniteDesk desk = Desks.with(Token.PAIR, Token.SET + 1, Token.USE);
        CHECK.due("run", desk.run(0), 3);
        results("after run", desk, 2, 7, 1);
        return desk;
    }

    private static void keptOverARefusedRun() {
        CHECK.sentence("kept till the next run that answers a number");
        DefiniteDesk desk = ran();
        desk.back();
        CHECK.due("refused run", desk.run(0), NONE);
        results("after a refused run", desk, 2, 7, 1);
        desk.clear();
        CHECK.due("refused run of no token", desk.run(-1), NONE);
        results("after a refused run of no token", desk, 2, 7, 1);
    }

    private static void keptTillTheNextRun() {
        CHECK.sentence("kept till the next run");
        DefiniteDesk desk = ran();
        desk.clear();
        desk.feed(Token.SKIP);
        CHECK.due("next run", desk.run(0), 1);
        results("after the next run", desk, 0, 1, 0);
        desk = Desks.with(Token.IF, Token.ASK, Token.SET, Token.USE + 1);
        desk.run(1);
        results("true", desk, 1, 7, 0);
        desk.run(0);
        results("false", desk, 0, 11, 1);
        desk.run(0);
        results("false again", desk, 0, 11, 1);
    }

    private static void keptOverChanges() {
        CHECK.sentence("changes of the program do not touch them");
        DefiniteDesk desk = ran();
        CHECK.due("refused feed", desk.feed(Token.SKIP), DefiniteDesk.FULL);
        results("after a refused feed", desk, 2, 7, 1);
        desk.back();
        results("after back", desk, 2, 7, 1);
        desk.feed(Token.SET + 3);
        results("after feed", desk, 2, 7, 1);
        CHECK.due("the changed program", desk.surelyAtEnd(), 10);
        results("after questions", desk, 2, 7, 1);
        desk.clear();
        results("after clear", desk, 2, 7, 1);
        desk.back();
        results("after a refused back", desk, 2, 7, 1);
    }

    private static void runSetByBit() {
        CHECK.sentence("The variables that were set in the last run: bit v for variable v");
        for (int v = 0; v <= 3; v++) {
            DefiniteDesk desk = Desks.with(Token.PAIR, Token.SET + v, Token.IF, Token.ASK, Token.SET, Token.USE + 3);
            desk.run(0);
            CHECK.due("SET " + v, desk.runSet(), 1 << v);
            desk.run(1);
            CHECK.due("SET " + v + " and SET 0", desk.runSet(), 1 << v | 1);
        }
        DefiniteDesk endless = Desks.with(Token.LOOP, Token.YES, Token.SET + 3);
        endless.run(0);
        CHECK.due("a run that is not over", endless.runSet(), 8);
    }

    private static void runSetWithoutARun() {
        CHECK.sentence("runSet: 0 when there was none");
        CHECK.due("new", new DefiniteDesk().runSet(), 0);
        CHECK.due("complete, not run", Desks.with(Token.SET).runSet(), 0);
        DefiniteDesk desk = Desks.with(Token.PAIR, Token.SET);
        desk.run(0);
        CHECK.due("a refused run is none", desk.runSet(), 0);
    }

    private static void runVisitedByBit() {
        CHECK.sentence("The tokens that the last run visited: bit k for token k");
        DefiniteDesk desk = Desks.with(Token.LOOP);
        for (int k = 1; k < 20; k++) {
            desk.feed(Token.NOT);
        }
        desk.feed(Token.ASK);
        desk.feed(Token.BREAK);
        // Nineteen times NOT: the statement comes when the ASK is false.
        CHECK.due("token 21 too: run", desk.run(0), 22);
        CHECK.due("token 21 too", desk.runVisited(), 0x3fffff);
        CHECK.due("all but token 21: run", desk.run(1), 21);
        CHECK.due("all but token 21", desk.runVisited(), 0x1fffff);
        DefiniteDesk single = Desks.with(Token.USE);
        single.run(0);
        CHECK.due("token 0", single.runVisited(), 1);
    }

    private static void runVisitedWithoutARun() {
        CHECK.sentence("runVisited: 0 when there was none");
        CHECK.due("new", new DefiniteDesk().runVisited(), 0);
        CHECK.due("complete, not run", Desks.with(Token.SET).runVisited(), 0);
        DefiniteDesk desk = Desks.with(Token.PAIR, Token.SET);
        desk.run(0);
        CHECK.due("a refused run is none", desk.runVisited(), 0);
    }

    private static void runFaultsEachTime() {
        CHECK.sentence("The number of times that the last run visited a USE or PEEK while its variable was unset");
        DefiniteDesk desk = Desks.with(Token.LOOP, Token.PEEK, Token.USE + 1);
        desk.run(0);
        CHECK.due("a PEEK", desk.runFaults(), 1);
        desk.run(3);
        CHECK.due("three PEEKs and two USEs", desk.runFaults(), 5);
        desk = Desks.with(Token.LOOP, Token.PEEK, Token.SET);
        desk.run(7);
        CHECK.due("the first of four", desk.runFaults(), 1);
        desk = Desks.with(Token.PAIR, Token.SET + 3, Token.USE + 3);
        desk.run(0);
        CHECK.due("none", desk.runFaults(), 0);
    }

    private static void runFaultsWithoutARun() {
        CHECK.sentence("runFaults: 0 when there was none");
        CHECK.due("new", new DefiniteDesk().runFaults(), 0);
        CHECK.due("complete, not run", Desks.with(Token.USE).runFaults(), 0);
        DefiniteDesk desk = Desks.with(Token.PAIR, Token.USE);
        desk.run(0);
        CHECK.due("a refused run is none", desk.runFaults(), 0);
    }
}
