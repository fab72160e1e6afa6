/** The boundary cases that the document's sections 'What it is' and 'Terms' name, sentence by sentence. */
public final class TermsBoundariesTest {
    private static final Check CHECK = new Check();
    private static final int NONE = DefiniteDesk.NONE;
    private static final int FULL = DefiniteDesk.FULL;

    public static void main(String[] args) {
        atMost512Calls();
        variables0To3();
        atMost22Tokens();
        breakLeavesInnermostLoop();
        breakWithoutLoop();
        loopIsOverWhenFalse();
        loopComesAgainWhenTrue();
        ifTakesOneWay();
        notTurnsRound();
        bothIsFalseAtOnce();
        anyIsTrueAtOnce();
        pickCarriesOutOneOfTwo();
        trySetsWhetherTrueOrFalse();
        peekSetsNothing();
        rangesOfTokens();
        noTokens();
        noBreakInConditions();
        onlyTheStatementOfALoopCounts();
        eitherWay();
        visitsWhenItBegins();
        loopIsVisitedWithItsCondition();
        endsWhenOver();
        unsetAtFirst();
        CHECK.finish();
    }

    private static void atMost512Calls() {
        CHECK.sentence("An object is used for at most 512 calls after it has been made");
        DefiniteDesk desk = new DefiniteDesk();
        int calls = 0;
        // 64 rounds of 8 calls.
        for (int round = 0; round < 64; round++) {
            CHECK.due("call " + ++calls + ": feed(PAIR)", desk.feed(Token.PAIR), 1);
            CHECK.due("call " + ++calls + ": feed(USE 0)", desk.feed(Token.USE), 2);
            CHECK.due("call " + ++calls + ": feed(SET 1)", desk.feed(Token.SET + 1), 3);
            CHECK.due("call " + ++calls + ": run(0)", desk.run(0), 3);
            CHECK.due("call " + ++calls + ": runSet()", desk.runSet(), 2);
            CHECK.due("call " + ++calls + ": back()", desk.back(), Token.SET + 1);
            CHECK.due("call " + ++calls + ": back()", desk.back(), Token.USE);
            CHECK.due("call " + ++calls + ": back()", desk.back(), Token.PAIR);
        }
        CHECK.due("calls", calls, 512);
        desk = new DefiniteDesk();
        for (int call = 1; call < 512; call++) {
            CHECK.due("call " + call + " refused", desk.feed(Token.YES), NONE);
        }
        CHECK.due("call 512: feed(SKIP)", desk.feed(Token.SKIP), 1);
    }

    private static void variables0To3() {
        CHECK.sentence("There are variables 0 .. 3.");
        DefiniteDesk desk = Desks.with(Token.PAIR, Token.PAIR, Token.SET, Token.SET + 1,
            Token.PAIR, Token.SET + 2, Token.SET + 3);
        CHECK.due("SET of all: surelyAtEnd", desk.surelyAtEnd(), 15);
        desk.run(0);
        CHECK.due("SET of all: runSet", desk.runSet(), 15);
        for (int v = 0; v <= 3; v++) {
            CHECK.due("SET " + v, Desks.with(Token.SET + v).surelyAtEnd(), 1 << v);
            CHECK.due("TRY " + v, Desks.with(Token.LOOP, Token.TRY + v, Token.SKIP).surelyAtEnd(), 1 << v);
            for (int other = 0; other <= 3; other++) {
                int bad = other == v ? 0 : 4;
                CHECK.due("SET " + v + " USE " + other,
                    Desks.with(Token.PAIR, Token.SET + v, Token.USE + other).badUses(), bad);
                CHECK.due("SET " + v + " PEEK " + other,
                    Desks.with(Token.PAIR, Token.SET + v, Token.LOOP, Token.PEEK + other, Token.SKIP).badUses(),
                    bad == 0 ? 0 : 8);
            }
        }
    }

    private static void atMost22Tokens() {
        CHECK.sentence("A program is written as a list of at most 22 tokens");
        DefiniteDesk desk = new DefiniteDesk();
        for (int k = 0; k < 22; k += 2) {
            desk.feed(Token.PAIR);
            desk.feed(Token.SKIP);
        }
        CHECK.due("22 tokens: length", desk.length(), 22);
        CHECK.due("22 tokens, one statement missing: complete", desk.complete(), false);
        CHECK.due("token 23", desk.feed(Token.SKIP), FULL);
        CHECK.due("length after it", desk.length(), 22);
        CHECK.due("complete after it", desk.complete(), false);
    }

    private static void breakLeavesInnermostLoop() {
        CHECK.sentence("leaves the innermost LOOP around it");
        // LOOP YES (PAIR (LOOP YES BREAK) (SET 0)): only the inner one is left.
        DefiniteDesk inner = Desks.with(Token.LOOP, Token.YES,
            Token.PAIR, Token.LOOP, Token.YES, Token.BREAK, Token.SET);
        CHECK.due("inner: visited", inner.visited(), 127);
        CHECK.due("inner: ends", inner.ends(), false);
        CHECK.due("inner: perhaps at the outer LOOP", inner.perhaps(0), 1);
        // PAIR (LOOP ASK (LOOP (TRY 0) (PAIR (LOOP (TRY 1) BREAK) BREAK))) (SET 3).
        DefiniteDesk deep = Desks.with(Token.PAIR, Token.LOOP, Token.ASK, Token.LOOP, Token.TRY,
            Token.PAIR, Token.LOOP, Token.TRY + 1, Token.BREAK, Token.BREAK, Token.SET + 3);
        CHECK.due("three deep: visited", deep.visited(), 0x7ff);
        CHECK.due("three deep: surelyAtEnd", deep.surelyAtEnd(), 8);
        CHECK.due("three deep: perhapsAtEnd", deep.perhapsAtEnd(), 11);
        CHECK.due("three deep: perhaps at the second LOOP", deep.perhaps(3), 3);
        CHECK.due("three deep: run", deep.run(7), 13);
        CHECK.due("three deep: runVisited", deep.runVisited(), 0x7ff);
    }

    private static void breakWithoutLoop() {
        CHECK.sentence("without a LOOP around it: ends the program");
        CHECK.due("alone: ends", Desks.with(Token.BREAK).ends(), true);
        CHECK.due("alone: surelyAtEnd", Desks.with(Token.BREAK).surelyAtEnd(), 0);
        CHECK.due("alone: run", Desks.with(Token.BREAK).run(0), 1);
        DefiniteDesk desk = Desks.with(Token.PAIR, Token.PAIR, Token.SET, Token.BREAK, Token.SET + 1);
        CHECK.due("before a statement: visited", desk.visited(), 15);
        CHECK.due("before a statement: ends", desk.ends(), true);
        CHECK.due("before a statement: perhapsAtEnd", desk.perhapsAtEnd(), 1);
        CHECK.due("before a statement: run", desk.run(0), 4);
        // Behind a LOOP there is none around it.
        desk = Desks.with(Token.PAIR, Token.PAIR, Token.LOOP, Token.ASK, Token.SKIP, Token.BREAK, Token.SET);
        CHECK.due("behind a LOOP: visited", desk.visited(), 63);
        CHECK.due("behind a LOOP: perhapsAtEnd", desk.perhapsAtEnd(), 0);
        desk = Desks.with(Token.PAIR, Token.IF, Token.ASK, Token.SKIP, Token.BREAK, Token.SET);
        CHECK.due("in an IF: surelyAtEnd", desk.surelyAtEnd(), 0);
        CHECK.due("in an IF: perhapsAtEnd", desk.perhapsAtEnd(), 1);
        CHECK.due("in an IF: run(0)", desk.run(0), 4);
    }

    private static void loopIsOverWhenFalse() {
        CHECK.sentence("when it is false the LOOP is over");
        DefiniteDesk never = Desks.with(Token.PAIR, Token.LOOP, Token.NO, Token.SET, Token.SET + 1);
        CHECK.due("false at once: visited", never.visited(), Desks.bits(0, 1, 2, 4));
        CHECK.due("false at once: surelyAtEnd", never.surelyAtEnd(), 2);
        CHECK.due("false at once: run", never.run(-1), 4);
        DefiniteDesk maybe = Desks.with(Token.PAIR, Token.LOOP, Token.ASK, Token.SET, Token.SET + 1);
        CHECK.due("false at some time: surelyAtEnd", maybe.surelyAtEnd(), 2);
        CHECK.due("false at some time: perhapsAtEnd", maybe.perhapsAtEnd(), 3);
        CHECK.due("false at some time: run", maybe.run(1), 7);
    }

    private static void loopComesAgainWhenTrue() {
        CHECK.sentence("when it is true statement s, and then the LOOP again");
        DefiniteDesk desk = Desks.with(Token.PAIR, Token.LOOP, Token.YES, Token.SET, Token.SET + 1);
        CHECK.due("always true: visited", desk.visited(), 15);
        CHECK.due("always true: surely at the LOOP", desk.surely(1), 0);
        CHECK.due("always true: perhaps at the LOOP", desk.perhaps(1), 1);
        CHECK.due("always true: perhaps at its condition", desk.perhaps(2), 1);
        CHECK.due("always true: run", desk.run(0), 100);
    }

    private static void ifTakesOneWay() {
        CHECK.sentence("when it is true statement s, else statement t");
        CHECK.due("YES", Desks.with(Token.IF, Token.YES, Token.SET, Token.SET + 1).visited(), 7);
        CHECK.due("NO", Desks.with(Token.IF, Token.NO, Token.SET, Token.SET + 1).visited(), 11);
    }

    private static void notTurnsRound() {
        CHECK.sentence("19 NOT c");
        CHECK.due("NOT YES", Desks.with(Token.IF, Token.NOT, Token.YES, Token.SKIP, Token.SKIP).visited(), 23);
        CHECK.due("NOT NO", Desks.with(Token.IF, Token.NOT, Token.NO, Token.SKIP, Token.SKIP).visited(), 15);
        CHECK.due("NOT NOT YES",
            Desks.with(Token.IF, Token.NOT, Token.NOT, Token.YES, Token.SKIP, Token.SKIP).visited(), 31);
    }

    /** What is visited of IF condition SKIP SKIP behind the IF, the SKIPs as the next two bits. */
    private static int visitedBy(int... condition) {
        DefiniteDesk desk = Desks.with(Token.IF);
        for (int token : condition) {
            desk.feed(token);
        }
        desk.feed(Token.SKIP);
        desk.feed(Token.SKIP);
        int visited = desk.visited();
        CHECK.due("the IF itself", visited & 1, 1);
        return visited >> 1;
    }

    private static void bothIsFalseAtOnce() {
        CHECK.sentence("BOTH c d: condition c; when it is true condition d decides, else it is false");
        CHECK.due("NO TRY", visitedBy(Token.BOTH, Token.NO, Token.TRY), Desks.bits(0, 1, 4));
        CHECK.due("YES YES", visitedBy(Token.BOTH, Token.YES, Token.YES), Desks.bits(0, 1, 2, 3));
        CHECK.due("YES NO", visitedBy(Token.BOTH, Token.YES, Token.NO), Desks.bits(0, 1, 2, 4));
        CHECK.due("YES ASK", visitedBy(Token.BOTH, Token.YES, Token.ASK), Desks.bits(0, 1, 2, 3, 4));
    }

    private static void anyIsTrueAtOnce() {
        CHECK.sentence("ANY c d: condition c; when it is true it is true, else condition d decides");
        CHECK.due("YES TRY", visitedBy(Token.ANY, Token.YES, Token.TRY), Desks.bits(0, 1, 3));
        CHECK.due("NO YES", visitedBy(Token.ANY, Token.NO, Token.YES), Desks.bits(0, 1, 2, 3));
        CHECK.due("NO NO", visitedBy(Token.ANY, Token.NO, Token.NO), Desks.bits(0, 1, 2, 4));
        CHECK.due("NO ASK", visitedBy(Token.ANY, Token.NO, Token.ASK), Desks.bits(0, 1, 2, 3, 4));
    }

    private static void pickCarriesOutOneOfTwo() {
        CHECK.sentence("PICK c d e: condition c; when it is true condition d decides, else condition e");
        CHECK.due("YES YES NO", visitedBy(Token.PICK, Token.YES, Token.YES, Token.NO), Desks.bits(0, 1, 2, 4));
        CHECK.due("YES NO YES", visitedBy(Token.PICK, Token.YES, Token.NO, Token.YES), Desks.bits(0, 1, 2, 5));
        CHECK.due("NO YES NO", visitedBy(Token.PICK, Token.NO, Token.YES, Token.NO), Desks.bits(0, 1, 3, 5));
        CHECK.due("NO NO YES", visitedBy(Token.PICK, Token.NO, Token.NO, Token.YES), Desks.bits(0, 1, 3, 4));
    }

    private static void trySetsWhetherTrueOrFalse() {
        CHECK.sentence("TRY v: variable v is set, and then true or false, as it happens");
        for (int v = 0; v <= 3; v++) {
            DefiniteDesk desk = Desks.with(Token.IF, Token.TRY + v, Token.USE + v, Token.USE + v);
            CHECK.due("surely when true", desk.surely(2), 1 << v);
            CHECK.due("surely when false", desk.surely(3), 1 << v);
            CHECK.due("badUses", desk.badUses(), 0);
            CHECK.due("visited", desk.visited(), 15);
            desk.run(0);
            CHECK.due("runSet when false", desk.runSet(), 1 << v);
            desk.run(1);
            CHECK.due("runSet when true", desk.runSet(), 1 << v);
        }
    }

    private static void peekSetsNothing() {
        CHECK.sentence("PEEK v: variable v is used, and then true or false, as it happens");
        for (int v = 0; v <= 3; v++) {
            DefiniteDesk desk = Desks.with(Token.IF, Token.PEEK + v, Token.SKIP, Token.SKIP);
            CHECK.due("badUses", desk.badUses(), 2);
            CHECK.due("visited", desk.visited(), 15);
            CHECK.due("perhapsAtEnd", desk.perhapsAtEnd(), 0);
            desk.run(0);
            CHECK.due("runFaults when false", desk.runFaults(), 1);
            CHECK.due("runSet when false", desk.runSet(), 0);
            desk.run(1);
            CHECK.due("runFaults when true", desk.runFaults(), 1);
        }
    }

    private static void rangesOfTokens() {
        CHECK.sentence("8 .. 11 are SET, 12 .. 15 USE, 24 .. 27 TRY, 28 .. 31 PEEK");
        for (int token = 8; token <= 15; token++) {
            boolean sets = token <= 11;
            int v = sets ? token - 8 : token - 12;
            DefiniteDesk desk = Desks.with(token);
            CHECK.due(token + ": complete", desk.complete(), true);
            CHECK.due(token + ": surelyAtEnd", desk.surelyAtEnd(), sets ? 1 << v : 0);
            CHECK.due(token + ": badUses", desk.badUses(), sets ? 0 : 1);
            CHECK.due(token + ": second set", Desks.with(Token.PAIR, 8 + v, token).secondSets(), sets ? 4 : 0);
        }
        for (int token = 24; token <= 31; token++) {
            boolean sets = token <= 27;
            int v = sets ? token - 24 : token - 28;
            DefiniteDesk desk = Desks.with(Token.IF, token, Token.SKIP, Token.SKIP);
            CHECK.due(token + ": complete", desk.complete(), true);
            CHECK.due(token + ": surelyAtEnd", desk.surelyAtEnd(), sets ? 1 << v : 0);
            CHECK.due(token + ": badUses", desk.badUses(), sets ? 0 : 2);
            CHECK.due(token + ": second set",
                Desks.with(Token.PAIR, 8 + v, Token.LOOP, token, Token.SKIP).secondSets(), sets ? 8 : 0);
        }
    }

    private static void noTokens() {
        CHECK.sentence("7 and 23 are no tokens");
        int[][] places = {{}, {Token.PAIR}, {Token.LOOP}, {Token.LOOP, Token.ASK}, {Token.IF, Token.PICK}};
        for (int[] before : places) {
            for (int token = 7; token <= 23; token += 16) {
                DefiniteDesk desk = Desks.with(before);
                CHECK.due("feed(" + token + ")", desk.feed(token), NONE);
                CHECK.due("length after feed(" + token + ")", desk.length(), before.length);
            }
        }
    }

    private static void noBreakInConditions() {
        CHECK.sentence("a BREAK can't stand in a condition");
        int[][] places = {
            {Token.LOOP}, {Token.IF}, {Token.LOOP, Token.NOT},
            {Token.LOOP, Token.BOTH}, {Token.LOOP, Token.BOTH, Token.YES},
            {Token.LOOP, Token.ANY}, {Token.LOOP, Token.ANY, Token.NO},
            {Token.IF, Token.PICK}, {Token.IF, Token.PICK, Token.ASK}, {Token.IF, Token.PICK, Token.ASK, Token.ASK},
        };
        for (int[] before : places) {
            DefiniteDesk desk = Desks.with(before);
            CHECK.due("feed(BREAK)", desk.feed(Token.BREAK), NONE);
            CHECK.due("length after it", desk.length(), before.length);
        }
    }

    private static void onlyTheStatementOfALoopCounts() {
        CHECK.sentence("Parts of a LOOP around a BREAK: only its statement s counts");
        // The BREAK stands in an IF with a condition of its own; it is the LOOP around both that is left.
        DefiniteDesk desk = Desks.with(Token.PAIR,
            Token.LOOP, Token.YES, Token.IF, Token.NOT, Token.TRY, Token.BREAK, Token.SKIP, Token.SET + 1);
        CHECK.due("BREAK in the statement: surelyAtEnd", desk.surelyAtEnd(), 3);
        CHECK.due("BREAK in the statement: run(0)", desk.run(0), 8);
        CHECK.due("BREAK in the statement: run(1)", desk.run(1), 14);
        // A LOOP that is the whole statement of a LOOP.
        desk = Desks.with(Token.PAIR, Token.LOOP, Token.YES, Token.LOOP, Token.ASK, Token.BREAK, Token.SET);
        CHECK.due("BREAK in the inner statement: ends", desk.ends(), false);
        CHECK.due("BREAK in the inner statement: visited", desk.visited(), 63);
    }

    private static void eitherWay() {
        CHECK.sentence("where something is true or false as it happens it can go either way");
        int[] open = {Token.ASK, Token.TRY, Token.TRY + 3, Token.PEEK, Token.PEEK + 3};
        for (int token : open) {
            CHECK.due("token " + token, visitedBy(token), 7);
        }
        // Each time anew, on one walk too.
        DefiniteDesk desk = Desks.with(Token.PAIR, Token.IF, Token.ASK, Token.SET, Token.SKIP,
            Token.IF, Token.ASK, Token.USE, Token.SKIP);
        CHECK.due("the second ASK does not follow the first: badUses", desk.badUses(), Desks.bits(7));
    }

    private static void visitsWhenItBegins() {
        CHECK.sentence("It VISITS a token when it begins to carry it out");
        DefiniteDesk desk = Desks.with(Token.PAIR, Token.IF, Token.TRY, Token.SET + 1, Token.SET + 1, Token.SET + 2);
        int[] before = {0, 0, 0, 1, 1, 3};
        for (int k = 0; k < before.length; k++) {
            CHECK.due("surely(" + k + ")", desk.surely(k), before[k]);
            CHECK.due("perhaps(" + k + ")", desk.perhaps(k), before[k]);
        }
        CHECK.due("a first SET is no second one", desk.secondSets(), 0);
    }

    private static void loopIsVisitedWithItsCondition() {
        CHECK.sentence("a LOOP is visited once for every time its condition is begun");
        DefiniteDesk desk = Desks.with(Token.LOOP, Token.ASK, Token.SKIP);
        for (int times = 0; times <= 31; times++) {
            CHECK.due(times + " times true", desk.run((int) ((1L << times) - 1)), 3 * times + 2);
        }
        desk = Desks.with(Token.LOOP, Token.NO, Token.SKIP);
        CHECK.due("begun once", desk.run(0), 2);
        desk = Desks.with(Token.LOOP, Token.TRY, Token.SKIP);
        CHECK.due("visited again with the variable set: perhaps", desk.perhaps(0), 1);
    }

    private static void endsWhenOver() {
        CHECK.sentence("The walk ends when the program is over.");
        CHECK.due("SKIP", Desks.with(Token.SKIP).ends(), true);
        CHECK.due("LOOP YES SKIP", Desks.with(Token.LOOP, Token.YES, Token.SKIP).ends(), false);
        CHECK.due("LOOP YES BREAK", Desks.with(Token.LOOP, Token.YES, Token.BREAK).ends(), true);
        CHECK.due("LOOP ASK SKIP", Desks.with(Token.LOOP, Token.ASK, Token.SKIP).ends(), true);
    }

    private static void unsetAtFirst() {
        CHECK.sentence("A variable is UNSET at first and SET by SET and TRY.");
        for (int v = 0; v <= 3; v++) {
            DefiniteDesk desk = Desks.with(Token.USE + v);
            CHECK.due("USE " + v + ": surely(0)", desk.surely(0), 0);
            CHECK.due("USE " + v + ": perhaps(0)", desk.perhaps(0), 0);
            CHECK.due("USE " + v + ": badUses", desk.badUses(), 1);
            CHECK.due("USE " + v + ": perhapsAtEnd", desk.perhapsAtEnd(), 0);
            desk.run(0);
            CHECK.due("USE " + v + ": runFaults", desk.runFaults(), 1);
            CHECK.due("USE " + v + ": runSet", desk.runSet(), 0);
            // A run begins with all unset, whatever the one before set.
            desk = Desks.with(Token.IF, Token.ASK, Token.SET + v, Token.USE + v);
            desk.run(1);
            desk.run(0);
            CHECK.due("run after a run that set " + v + ": runFaults", desk.runFaults(), 1);
            CHECK.due("run after a run that set " + v + ": runSet", desk.runSet(), 0);
        }
        int[] others = {Token.ASK, Token.YES, Token.NO, Token.PEEK};
        for (int token : others) {
            CHECK.due("token " + token + " sets nothing",
                Desks.with(Token.IF, token, Token.SKIP, Token.USE + 1).perhapsAtEnd(), 0);
        }
    }
}
