/** Promises 7 to 14: what all walks together visit, set and use. */
public final class WalksTest {
    private static final Check CHECK = new Check();

    public static void main(String[] args) {
        stateBeforeTheToken();
        conditionsThatNeverAsk();
        negation();
        shortCircuits();
        picks();
        loopThatNeverEnds();
        loopThatIsLeft();
        loopThatComesAgain();
        breakInnermost();
        breakWithoutLoop();
        breakSkipsTheRest();
        badUses();
        secondSets();
        sameConditionTwice();
        afterChange();
        CHECK.finish();
    }

    private static void stateBeforeTheToken() {
        for (int v = 0; v < 4; v++) {
            DefiniteDesk desk = Desks.with(Token.PAIR, Token.SET + v, Token.SKIP);
            CHECK.due("at SET: surely", desk.surely(1), 0);
            CHECK.due("at SET: perhaps", desk.perhaps(1), 0);
            CHECK.due("behind SET: surely", desk.surely(2), 1 << v);
            CHECK.due("behind SET: perhaps", desk.perhaps(2), 1 << v);
            desk = Desks.with(Token.IF, Token.TRY + v, Token.SKIP, Token.SKIP);
            CHECK.due("at TRY: perhaps", desk.perhaps(1), 0);
            CHECK.due("behind a true TRY: surely", desk.surely(2), 1 << v);
            CHECK.due("behind a false TRY: surely", desk.surely(3), 1 << v);
            CHECK.due("behind TRY: surelyAtEnd", desk.surelyAtEnd(), 1 << v);
        }
    }

    private static void conditionsThatNeverAsk() {
        DefiniteDesk yes = Desks.with(Token.IF, Token.YES, Token.SET, Token.SET + 1);
        CHECK.due("YES: visited", yes.visited(), Desks.bits(0, 1, 2));
        CHECK.due("YES: surelyAtEnd", yes.surelyAtEnd(), 1);
        CHECK.due("YES: perhapsAtEnd", yes.perhapsAtEnd(), 1);
        CHECK.due("no walk visits: surely", yes.surely(3), 15);
        CHECK.due("no walk visits: perhaps", yes.perhaps(3), 0);
        DefiniteDesk no = Desks.with(Token.IF, Token.NO, Token.SET, Token.SET + 1);
        CHECK.due("NO: visited", no.visited(), Desks.bits(0, 1, 3));
        CHECK.due("NO: surelyAtEnd", no.surelyAtEnd(), 2);
        CHECK.due("NO: perhapsAtEnd", no.perhapsAtEnd(), 2);
        DefiniteDesk ask = Desks.with(Token.IF, Token.ASK, Token.SET, Token.SET + 1);
        CHECK.due("ASK: visited", ask.visited(), 15);
        CHECK.due("ASK: surelyAtEnd", ask.surelyAtEnd(), 0);
        CHECK.due("ASK: perhapsAtEnd", ask.perhapsAtEnd(), 3);
    }

    private static void negation() {
        CHECK.due("NOT YES", Desks.with(Token.IF, Token.NOT, Token.YES, Token.SET, Token.SET + 1).surelyAtEnd(), 2);
        CHECK.due("NOT NO", Desks.with(Token.IF, Token.NOT, Token.NO, Token.SET, Token.SET + 1).surelyAtEnd(), 1);
        DefiniteDesk desk = Desks.with(Token.IF, Token.NOT, Token.BOTH, Token.ASK, Token.TRY, Token.USE, Token.USE);
        CHECK.due("NOT BOTH: only the else part is sure", desk.badUses(), Desks.bits(5));
    }

    private static void shortCircuits() {
        DefiniteDesk both = Desks.with(Token.IF, Token.BOTH, Token.ASK, Token.TRY, Token.USE, Token.USE);
        CHECK.due("BOTH: surely when true", both.surely(4), 1);
        CHECK.due("BOTH: surely when false", both.surely(5), 0);
        CHECK.due("BOTH: perhaps when false", both.perhaps(5), 1);
        DefiniteDesk any = Desks.with(Token.IF, Token.ANY, Token.ASK, Token.TRY, Token.USE, Token.USE);
        CHECK.due("ANY: surely when true", any.surely(4), 0);
        CHECK.due("ANY: perhaps when true", any.perhaps(4), 1);
        CHECK.due("ANY: surely when false", any.surely(5), 1);
        DefiniteDesk bothNo = Desks.with(Token.IF, Token.BOTH, Token.NO, Token.TRY, Token.SKIP, Token.SKIP);
        CHECK.due("BOTH NO: visited", bothNo.visited(), Desks.bits(0, 1, 2, 5));
        DefiniteDesk anyYes = Desks.with(Token.IF, Token.ANY, Token.YES, Token.TRY, Token.SKIP, Token.SKIP);
        CHECK.due("ANY YES: visited", anyYes.visited(), Desks.bits(0, 1, 2, 4));
    }

    private static void picks() {
        DefiniteDesk yes = Desks.with(Token.IF, Token.PICK, Token.YES, Token.NO, Token.YES, Token.SKIP, Token.SKIP);
        CHECK.due("PICK YES NO YES: visited", yes.visited(), Desks.bits(0, 1, 2, 3, 6));
        DefiniteDesk no = Desks.with(Token.IF, Token.PICK, Token.NO, Token.NO, Token.YES, Token.SKIP, Token.SKIP);
        CHECK.due("PICK NO NO YES: visited", no.visited(), Desks.bits(0, 1, 2, 4, 5));
        DefiniteDesk ask = Desks.with(
            Token.IF, Token.PICK, Token.ASK, Token.TRY, Token.TRY + 1, Token.SKIP, Token.SKIP);
        CHECK.due("PICK: surely", ask.surely(5), 0);
        CHECK.due("PICK: perhaps", ask.perhaps(5), 3);
        CHECK.due("PICK: perhaps at the second way", ask.perhaps(4), 0);
    }

    private static void loopThatNeverEnds() {
        DefiniteDesk desk = Desks.with(Token.PAIR, Token.LOOP, Token.YES, Token.SET, Token.USE + 1);
        CHECK.due("endless: visited", desk.visited(), Desks.bits(0, 1, 2, 3));
        CHECK.due("endless: ends", desk.ends(), false);
        CHECK.due("endless: surelyAtEnd", desk.surelyAtEnd(), 15);
        CHECK.due("endless: perhapsAtEnd", desk.perhapsAtEnd(), 0);
        CHECK.due("endless: badUses", desk.badUses(), 0);
        CHECK.due("endless: secondSets", desk.secondSets(), Desks.bits(3));
        CHECK.due("endless: surely of what is not visited", desk.surely(4), 15);
        CHECK.due("endless: perhaps of what is not visited", desk.perhaps(4), 0);
    }

    private static void loopThatIsLeft() {
        DefiniteDesk never = Desks.with(Token.LOOP, Token.NO, Token.SET);
        CHECK.due("LOOP NO: visited", never.visited(), 3);
        CHECK.due("LOOP NO: ends", never.ends(), true);
        CHECK.due("LOOP NO: perhapsAtEnd", never.perhapsAtEnd(), 0);
        DefiniteDesk maybe = Desks.with(Token.LOOP, Token.TRY, Token.SET + 1);
        CHECK.due("LOOP TRY: ends", maybe.ends(), true);
        CHECK.due("LOOP TRY: surelyAtEnd", maybe.surelyAtEnd(), 1);
        CHECK.due("LOOP TRY: perhapsAtEnd", maybe.perhapsAtEnd(), 3);
        CHECK.due("LOOP TRY: surely in the body", maybe.surely(2), 1);
    }

    private static void loopThatComesAgain() {
        // Each time round sets one more variable: what is set comes back to the first token of the loop.
        DefiniteDesk desk = Desks.with(Token.LOOP, Token.ASK,
            Token.IF, Token.PEEK, Token.IF, Token.ASK, Token.SET, Token.SET + 1, Token.SET + 2);
        CHECK.due("again: perhaps at the LOOP", desk.perhaps(0), 7);
        CHECK.due("again: surely at the LOOP", desk.surely(0), 0);
        CHECK.due("again: badUses", desk.badUses(), Desks.bits(3));
        CHECK.due("again: secondSets", desk.secondSets(), Desks.bits(6, 7, 8));
    }

    private static void breakInnermost() {
        DefiniteDesk desk = Desks.with(Token.LOOP, Token.ASK,
            Token.PAIR, Token.LOOP, Token.YES, Token.BREAK, Token.SET);
        CHECK.due("inner BREAK: visited", desk.visited(), 127);
        CHECK.due("inner BREAK: the outer LOOP goes on", desk.perhaps(0), 1);
        // The BREAK stands behind an inner LOOP, not in it: it leaves the outer one.
        desk = Desks.with(Token.PAIR, Token.LOOP, Token.YES,
            Token.PAIR, Token.LOOP, Token.ASK, Token.SKIP, Token.BREAK, Token.SET + 3);
        CHECK.due("outer BREAK: ends", desk.ends(), true);
        CHECK.due("outer BREAK: surelyAtEnd", desk.surelyAtEnd(), 8);
        CHECK.due("outer BREAK: surely at the LOOP", desk.surely(1), 0);
        // In one part of an IF: the walk goes on behind the LOOP.
        desk = Desks.with(Token.PAIR, Token.LOOP, Token.YES,
            Token.IF, Token.ASK, Token.BREAK, Token.SET, Token.SET + 3);
        CHECK.due("BREAK when true: surelyAtEnd", desk.surelyAtEnd(), 8);
        CHECK.due("BREAK when true: perhapsAtEnd", desk.perhapsAtEnd(), 9);
        desk = Desks.with(Token.PAIR, Token.LOOP, Token.YES,
            Token.IF, Token.ASK, Token.SET, Token.BREAK, Token.SET + 3);
        CHECK.due("BREAK when false: surelyAtEnd", desk.surelyAtEnd(), 8);
        CHECK.due("BREAK when false: perhapsAtEnd", desk.perhapsAtEnd(), 9);
        // In both parts of an IF in the body.
        desk = Desks.with(Token.LOOP, Token.YES, Token.IF, Token.TRY, Token.BREAK, Token.BREAK);
        CHECK.due("BREAK in both ways: ends", desk.ends(), true);
        CHECK.due("BREAK in both ways: surelyAtEnd", desk.surelyAtEnd(), 1);
        CHECK.due("BREAK in both ways: the LOOP comes once", desk.perhaps(0), 0);
    }

    private static void breakWithoutLoop() {
        DefiniteDesk desk = Desks.with(Token.PAIR, Token.IF, Token.ASK, Token.BREAK, Token.SET, Token.SET + 1);
        CHECK.due("BREAK ends the program: ends", desk.ends(), true);
        CHECK.due("BREAK ends the program: surelyAtEnd", desk.surelyAtEnd(), 0);
        CHECK.due("BREAK ends the program: perhapsAtEnd", desk.perhapsAtEnd(), 3);
        CHECK.due("BREAK ends the program: surely behind it", desk.surely(5), 1);
        CHECK.due("BREAK alone: ends", Desks.with(Token.BREAK).ends(), true);
        // Behind a LOOP that is over, a BREAK ends the program too.
        desk = Desks.with(Token.PAIR, Token.LOOP, Token.ASK, Token.SKIP, Token.PAIR, Token.BREAK, Token.SET);
        CHECK.due("BREAK behind a LOOP: visited", desk.visited(), Desks.bits(0, 1, 2, 3, 4, 5));
        CHECK.due("BREAK behind a LOOP: surelyAtEnd", desk.surelyAtEnd(), 0);
    }

    private static void breakSkipsTheRest() {
        DefiniteDesk desk = Desks.with(Token.PAIR, Token.BREAK, Token.USE);
        CHECK.due("rest: visited", desk.visited(), 3);
        CHECK.due("rest: badUses", desk.badUses(), 0);
        desk = Desks.with(Token.PAIR, Token.LOOP, Token.YES, Token.PAIR, Token.BREAK, Token.USE, Token.USE + 1);
        CHECK.due("rest in a LOOP: visited", desk.visited(), Desks.bits(0, 1, 2, 3, 4, 6));
        CHECK.due("rest in a LOOP: badUses", desk.badUses(), Desks.bits(6));
    }

    private static void badUses() {
        for (int v = 0; v < 4; v++) {
            CHECK.due("USE alone", Desks.with(Token.USE + v).badUses(), 1);
            CHECK.due("PEEK alone", Desks.with(Token.LOOP, Token.PEEK + v, Token.SKIP).badUses(), 2);
            CHECK.due("SET then USE", Desks.with(Token.PAIR, Token.SET + v, Token.USE + v).badUses(), 0);
            CHECK.due("another SET then USE",
                Desks.with(Token.PAIR, Token.SET + (v + 1) % 4, Token.USE + v).badUses(), 4);
            CHECK.due("a USE sets nothing", Desks.with(Token.PAIR, Token.USE + v, Token.USE + v).badUses(), 6);
            CHECK.due("a PEEK sets nothing",
                Desks.with(Token.IF, Token.PEEK + v, Token.USE + v, Token.SKIP).badUses(), 6);
        }
        CHECK.due("a USE that is not visited",
            Desks.with(Token.IF, Token.YES, Token.SKIP, Token.USE).badUses(), 0);
        CHECK.due("set on one way only",
            Desks.with(Token.PAIR, Token.IF, Token.ASK, Token.SET, Token.SKIP, Token.USE).badUses(), Desks.bits(5));
    }

    private static void secondSets() {
        for (int v = 0; v < 4; v++) {
            CHECK.due("SET alone", Desks.with(Token.SET + v).secondSets(), 0);
            CHECK.due("SET twice", Desks.with(Token.PAIR, Token.SET + v, Token.SET + v).secondSets(), 4);
            CHECK.due("SET of two", Desks.with(Token.PAIR, Token.SET + v, Token.SET + (v + 1) % 4).secondSets(), 0);
            CHECK.due("TRY then SET",
                Desks.with(Token.IF, Token.TRY + v, Token.SET + v, Token.SKIP).secondSets(), 4);
            CHECK.due("TRY in a LOOP", Desks.with(Token.LOOP, Token.TRY + v, Token.SKIP).secondSets(), 2);
            CHECK.due("USE is no SET", Desks.with(Token.PAIR, Token.SET + v, Token.USE + v).secondSets(), 0);
        }
        CHECK.due("a SET that is not visited",
            Desks.with(Token.PAIR, Token.SET, Token.IF, Token.YES, Token.SKIP, Token.SET).secondSets(), 0);
        CHECK.due("set before on one way only",
            Desks.with(Token.PAIR, Token.IF, Token.ASK, Token.SET, Token.SKIP, Token.SET).secondSets(), Desks.bits(5));
    }

    private static void sameConditionTwice() {
        // Each ASK happens anew: that both are true on the same walk is not known.
        DefiniteDesk desk = Desks.with(Token.PAIR, Token.IF, Token.ASK, Token.SET, Token.SKIP,
            Token.IF, Token.ASK, Token.USE, Token.SKIP);
        CHECK.due("ASK twice: badUses", desk.badUses(), Desks.bits(7));
    }

    private static void afterChange() {
        DefiniteDesk desk = Desks.with(Token.PAIR, Token.SET, Token.SET + 1);
        CHECK.due("before the change: surelyAtEnd", desk.surelyAtEnd(), 3);
        desk.back();
        desk.feed(Token.SET + 2);
        CHECK.due("after the change: surelyAtEnd", desk.surelyAtEnd(), 5);
        desk.clear();
        desk.feed(Token.BREAK);
        CHECK.due("after clear: surelyAtEnd", desk.surelyAtEnd(), 0);
        CHECK.due("after clear: visited", desk.visited(), 1);
        CHECK.due("after clear: surely(1)", desk.surely(1), DefiniteDesk.NONE);
    }
}
