import static java.lang.Integer.MAX_VALUE;
import static java.lang.Integer.MIN_VALUE;

import java.util.ArrayList;
import java.util.List;

/** The boundary cases that promises 7 to 14 name, sentence by sentence. */
public final class WalksBoundariesTest {
    private static final Check CHECK = new Check();
    private static final int NONE = DefiniteDesk.NONE;

    public static void main(String[] args) {
        visitedByBit();
        visitedBySomeWalk();
        visitedWhenIncomplete();
        surelyOnEveryWalk();
        surelyWhenever();
        surelyWhenNotVisited();
        surelyWhenIncomplete();
        surelyOutOfRange();
        perhapsOnSomeWalk();
        perhapsAtSomeTime();
        perhapsWhenNotVisited();
        perhapsWhenIncomplete();
        perhapsOutOfRange();
        endsWhenSomeWalkDoes();
        endsWhenIncomplete();
        surelyAtEndOfEveryWalk();
        surelyAtEndWhenNoneEnds();
        surelyAtEndWhenIncomplete();
        perhapsAtEndOfSomeWalk();
        perhapsAtEndWhenNoneEnds();
        perhapsAtEndWhenIncomplete();
        badUsesByBit();
        badUsesOfUseAndPeekOnly();
        badUsesOnSomeWalk();
        badUsesWhenIncomplete();
        secondSetsByBit();
        secondSetsOfSetAndTryOnly();
        secondSetsOnSomeWalk();
        secondSetsWhenIncomplete();
        CHECK.finish();
    }

    /** Programs that are not complete: no token, too few, 22, one taken back, all taken away, begun again. */
    private static List<DefiniteDesk> incompleteOnes() {
        List<DefiniteDesk> desks = new ArrayList<>();
        desks.add(new DefiniteDesk());
        desks.add(Desks.with(Token.PAIR));
        desks.add(Desks.with(Token.PAIR, Token.PAIR, Token.USE, Token.PAIR, Token.SET, Token.SET));
        desks.add(Desks.with(Token.LOOP, Token.PEEK));
        DefiniteDesk full = Desks.with(Token.PAIR, Token.USE, Token.PAIR, Token.SET);
        for (int k = 4; k < 22; k++) {
            full.feed(Token.PAIR);
        }
        desks.add(full);
        // What was found for the whole program, a bad use and a second set, is not told of its beginning.
        int[] whole = {Token.PAIR, Token.USE, Token.PAIR, Token.SET, Token.PAIR, Token.SET, Token.SKIP};
        DefiniteDesk takenBack = Desks.with(whole);
        takenBack.back();
        desks.add(takenBack);
        DefiniteDesk cleared = Desks.with(whole);
        cleared.clear();
        desks.add(cleared);
        DefiniteDesk begunAgain = Desks.with(whole);
        begunAgain.clear();
        for (int k = 0; k + 1 < whole.length; k++) {
            begunAgain.feed(whole[k]);
        }
        desks.add(begunAgain);
        return desks;
    }

    /** A program of 22 tokens, filled up with PAIR and SKIP before a statement of an even number of tokens. */
    private static DefiniteDesk endingWith(int... last) {
        DefiniteDesk desk = new DefiniteDesk();
        for (int k = 0; k + 1 < 22 - last.length; k += 2) {
            desk.feed(Token.PAIR);
            desk.feed(Token.SKIP);
        }
        for (int token : last) {
            desk.feed(token);
        }
        CHECK.due("tokens", desk.length(), 22);
        CHECK.due("complete", desk.complete(), true);
        return desk;
    }

    private static void visitedByBit() {
        CHECK.sentence("The tokens that some walk visits: bit k for token k");
        CHECK.due("one token", Desks.with(Token.SKIP).visited(), 1);
        CHECK.due("22 tokens", endingWith(Token.PAIR, Token.LOOP, Token.NOT, Token.ASK, Token.SKIP, Token.SKIP)
            .visited(), 0x3fffff);
        DefiniteDesk desk = endingWith(Token.IF, Token.YES, Token.SKIP, Token.SKIP);
        CHECK.due("all but token 21", desk.visited(), 0x1fffff);
        desk = endingWith(Token.IF, Token.NO, Token.SKIP, Token.SKIP);
        CHECK.due("all but token 20", desk.visited(), 0x2fffff);
    }

    private static void visitedBySomeWalk() {
        CHECK.sentence("some walk visits");
        CHECK.due("either way of ASK", Desks.with(Token.IF, Token.ASK, Token.SKIP, Token.SKIP).visited(), 15);
        CHECK.due("behind an endless LOOP",
            Desks.with(Token.PAIR, Token.LOOP, Token.YES, Token.SKIP, Token.SKIP).visited(), 15);
        CHECK.due("behind a BREAK", Desks.with(Token.PAIR, Token.BREAK, Token.SKIP).visited(), 3);
        CHECK.due("a LOOP that is not begun",
            Desks.with(Token.IF, Token.YES, Token.SKIP, Token.LOOP, Token.ASK, Token.SKIP).visited(), 7);
    }

    private static void visitedWhenIncomplete() {
        CHECK.sentence("visited: 0 when the program is not complete");
        for (DefiniteDesk desk : incompleteOnes()) {
            CHECK.due("visited", desk.visited(), 0);
        }
    }

    private static void surelyOnEveryWalk() {
        CHECK.sentence("The variables that are set on every walk .. it visits token k: bit v for variable v");
        DefiniteDesk desk = Desks.with(Token.PAIR, Token.IF, Token.ASK,
            Token.PAIR, Token.SET, Token.SET + 3, Token.PAIR, Token.SET + 3, Token.SET + 1, Token.SKIP);
        CHECK.due("variable 3 on both ways", desk.surely(9), 8);
        CHECK.due("the first way", desk.surely(5), 1);
        CHECK.due("the second way", desk.surely(8), 8);
        CHECK.due("none at the first token", desk.surely(0), 0);
        CHECK.due("all four", endingWithAllSet().surely(21), 15);
    }

    private static DefiniteDesk endingWithAllSet() {
        return Desks.with(Token.PAIR, Token.SET, Token.PAIR, Token.SET + 1, Token.PAIR, Token.SET + 2,
            Token.PAIR, Token.SET + 3, Token.PAIR, Token.SKIP, Token.PAIR, Token.SKIP, Token.PAIR, Token.SKIP,
            Token.PAIR, Token.SKIP, Token.IF, Token.ANY, Token.ASK, Token.ASK, Token.SKIP, Token.SKIP);
    }

    private static void surelyWhenever() {
        CHECK.sentence("on every walk whenever it visits token k");
        // Every walk that goes on visits the LOOP with the variable set, but first with it unset.
        DefiniteDesk desk = Desks.with(Token.LOOP, Token.TRY, Token.SET + 1);
        CHECK.due("at the LOOP", desk.surely(0), 0);
        CHECK.due("at its condition", desk.surely(1), 0);
        CHECK.due("at its statement", desk.surely(2), 1);
    }

    private static void surelyWhenNotVisited() {
        CHECK.sentence("15 when no walk visits it");
        CHECK.due("IF YES", Desks.with(Token.IF, Token.YES, Token.SKIP, Token.SKIP).surely(3), 15);
        CHECK.due("IF NO", Desks.with(Token.IF, Token.NO, Token.SKIP, Token.SKIP).surely(2), 15);
        CHECK.due("LOOP NO", Desks.with(Token.LOOP, Token.NO, Token.SKIP).surely(2), 15);
        CHECK.due("BOTH NO", Desks.with(Token.LOOP, Token.BOTH, Token.NO, Token.ASK, Token.SKIP).surely(3), 15);
        CHECK.due("ANY YES", Desks.with(Token.LOOP, Token.ANY, Token.YES, Token.ASK, Token.SKIP).surely(3), 15);
        CHECK.due("behind BREAK", Desks.with(Token.PAIR, Token.BREAK, Token.SKIP).surely(2), 15);
        CHECK.due("token 21", endingWith(Token.IF, Token.YES, Token.SKIP, Token.SKIP).surely(21), 15);
    }

    private static void surelyWhenIncomplete() {
        CHECK.sentence("surely: NONE when the program is not complete");
        for (DefiniteDesk desk : incompleteOnes()) {
            for (int k = -1; k <= 22; k++) {
                CHECK.due(desk.length() + " tokens, surely(" + k + ")", desk.surely(k), NONE);
            }
        }
    }

    private static int[] wrongPlaces(int length) {
        return new int[] {-1, -2, -22, -32, -31 - length, MIN_VALUE, MIN_VALUE + length - 1,
            length, length + 1, 22, 23, 31, 32, 33, 64, 1 << 16, MAX_VALUE - 1, MAX_VALUE};
    }

    private static void surelyOutOfRange() {
        CHECK.sentence("surely: NONE when .. k is not 0 .. length() - 1");
        DefiniteDesk[] desks = {
            Desks.with(Token.SET), Desks.with(Token.PAIR, Token.SET, Token.SET), endingWithAllSet(),
        };
        for (DefiniteDesk desk : desks) {
            int length = desk.length();
            for (int k : wrongPlaces(length)) {
                CHECK.due(length + " tokens, surely(" + k + ")", desk.surely(k), NONE);
            }
            CHECK.due(length + " tokens, surely of the first", desk.surely(0), 0);
        }
        CHECK.due("surely of the last of 1", desks[0].surely(0), 0);
        CHECK.due("surely of the last of 3", desks[1].surely(2), 1);
        CHECK.due("surely of the last of 22", desks[2].surely(21), 15);
        // Behind the program there may be tokens that were there once.
        DefiniteDesk shorter = Desks.with(Token.PAIR, Token.SET, Token.SET);
        shorter.clear();
        shorter.feed(Token.SKIP);
        CHECK.due("1 token after 3, surely(1)", shorter.surely(1), NONE);
        CHECK.due("1 token after 3, surely(2)", shorter.surely(2), NONE);
    }

    private static void perhapsOnSomeWalk() {
        CHECK.sentence("The variables that are set on some walk .. bit v for variable v");
        DefiniteDesk desk = Desks.with(Token.PAIR, Token.IF, Token.ASK, Token.SET, Token.SET + 3, Token.SKIP);
        CHECK.due("either way", desk.perhaps(5), 9);
        CHECK.due("none at the first token", desk.perhaps(0), 0);
        CHECK.due("all four", endingWithAllSet().perhaps(21), 15);
    }

    private static void perhapsAtSomeTime() {
        CHECK.sentence("at some time when it visits token k");
        DefiniteDesk desk = Desks.with(Token.LOOP, Token.ASK, Token.SET + 2);
        CHECK.due("at the LOOP", desk.perhaps(0), 4);
        CHECK.due("at its condition", desk.perhaps(1), 4);
        CHECK.due("at its statement", desk.perhaps(2), 4);
        // Set behind it, and never visited again.
        desk = Desks.with(Token.PAIR, Token.SKIP, Token.SET);
        CHECK.due("set later", desk.perhaps(1), 0);
    }

    private static void perhapsWhenNotVisited() {
        CHECK.sentence("0 when no walk visits it");
        CHECK.due("IF YES", Desks.with(Token.PAIR, Token.SET, Token.IF, Token.YES, Token.SKIP, Token.SKIP)
            .perhaps(5), 0);
        CHECK.due("IF NO", Desks.with(Token.PAIR, Token.SET, Token.IF, Token.NO, Token.SKIP, Token.SKIP)
            .perhaps(4), 0);
        CHECK.due("LOOP NO", Desks.with(Token.PAIR, Token.SET, Token.LOOP, Token.NO, Token.SKIP).perhaps(4), 0);
        CHECK.due("behind BREAK", Desks.with(Token.PAIR, Token.PAIR, Token.SET, Token.BREAK, Token.SKIP)
            .perhaps(4), 0);
        CHECK.due("behind an endless LOOP", Desks.with(Token.PAIR, Token.LOOP, Token.YES, Token.SET, Token.SKIP)
            .perhaps(4), 0);
    }

    private static void perhapsWhenIncomplete() {
        CHECK.sentence("perhaps: NONE when the program is not complete");
        for (DefiniteDesk desk : incompleteOnes()) {
            for (int k = -1; k <= 22; k++) {
                CHECK.due(desk.length() + " tokens, perhaps(" + k + ")", desk.perhaps(k), NONE);
            }
        }
    }

    private static void perhapsOutOfRange() {
        CHECK.sentence("perhaps: NONE when .. k is not 0 .. length() - 1");
        DefiniteDesk[] desks = {
            Desks.with(Token.SET), Desks.with(Token.PAIR, Token.SET, Token.SET), endingWithAllSet(),
        };
        for (DefiniteDesk desk : desks) {
            int length = desk.length();
            for (int k : wrongPlaces(length)) {
                CHECK.due(length + " tokens, perhaps(" + k + ")", desk.perhaps(k), NONE);
            }
            CHECK.due(length + " tokens, perhaps of the first", desk.perhaps(0), 0);
        }
        CHECK.due("perhaps of the last of 1", desks[0].perhaps(0), 0);
        CHECK.due("perhaps of the last of 3", desks[1].perhaps(2), 1);
        CHECK.due("perhaps of the last of 22", desks[2].perhaps(21), 15);
        DefiniteDesk shorter = Desks.with(Token.PAIR, Token.SET, Token.SET);
        shorter.clear();
        shorter.feed(Token.SKIP);
        CHECK.due("1 token after 3, perhaps(1)", shorter.perhaps(1), NONE);
        CHECK.due("1 token after 3, perhaps(2)", shorter.perhaps(2), NONE);
    }

    private static void endsWhenSomeWalkDoes() {
        CHECK.sentence("Whether some walk ends");
        CHECK.due("all", Desks.with(Token.SKIP).ends(), true);
        CHECK.due("one of two", Desks.with(Token.IF, Token.ASK, Token.SKIP, Token.LOOP, Token.YES, Token.SKIP)
            .ends(), true);
        CHECK.due("none", Desks.with(Token.LOOP, Token.YES, Token.SKIP).ends(), false);
        CHECK.due("none, a BREAK is not visited",
            Desks.with(Token.LOOP, Token.YES, Token.IF, Token.NO, Token.BREAK, Token.SKIP).ends(), false);
        CHECK.due("none, of two ways", Desks.with(Token.LOOP, Token.ANY, Token.ASK, Token.YES, Token.SKIP)
            .ends(), false);
        CHECK.due("with 22 tokens", endingWithAllSet().ends(), true);
    }

    private static void endsWhenIncomplete() {
        CHECK.sentence("ends: false when the program is not complete");
        for (DefiniteDesk desk : incompleteOnes()) {
            CHECK.due("ends", desk.ends(), false);
        }
    }

    private static void surelyAtEndOfEveryWalk() {
        CHECK.sentence("The variables that are set at the end of every walk that ends");
        CHECK.due("none", Desks.with(Token.SKIP).surelyAtEnd(), 0);
        CHECK.due("all four", endingWithAllSet().surelyAtEnd(), 15);
        CHECK.due("by the last token", Desks.with(Token.SET + 3).surelyAtEnd(), 8);
        CHECK.due("on one way of two", Desks.with(Token.IF, Token.ASK, Token.SET, Token.SKIP).surelyAtEnd(), 0);
        // PAIR (IF ASK (SET 0) (LOOP YES SKIP)) SKIP: the walk without the SET does not end.
        DefiniteDesk desk = Desks.with(Token.PAIR,
            Token.IF, Token.ASK, Token.SET, Token.LOOP, Token.YES, Token.SKIP, Token.SKIP);
        CHECK.due("a walk that does not end does not count", desk.surelyAtEnd(), 1);
    }

    private static void surelyAtEndWhenNoneEnds() {
        CHECK.sentence("15 when none ends");
        CHECK.due("nothing set", Desks.with(Token.LOOP, Token.YES, Token.SKIP).surelyAtEnd(), 15);
        CHECK.due("something set", Desks.with(Token.LOOP, Token.YES, Token.SET + 1).surelyAtEnd(), 15);
    }

    private static void surelyAtEndWhenIncomplete() {
        CHECK.sentence("surelyAtEnd: NONE when the program is not complete");
        for (DefiniteDesk desk : incompleteOnes()) {
            CHECK.due("surelyAtEnd", desk.surelyAtEnd(), NONE);
        }
    }

    private static void perhapsAtEndOfSomeWalk() {
        CHECK.sentence("The variables that are set at the end of some walk that ends");
        CHECK.due("none", Desks.with(Token.SKIP).perhapsAtEnd(), 0);
        CHECK.due("all four", endingWithAllSet().perhapsAtEnd(), 15);
        CHECK.due("by the last token", Desks.with(Token.SET + 3).perhapsAtEnd(), 8);
        CHECK.due("on one way of two", Desks.with(Token.IF, Token.ASK, Token.SET, Token.SKIP).perhapsAtEnd(), 1);
        // IF ASK (SET 0) (PAIR (SET 1) (LOOP YES SKIP)): the walk with SET 1 does not end.
        DefiniteDesk desk = Desks.with(Token.IF, Token.ASK, Token.SET,
            Token.PAIR, Token.SET + 1, Token.LOOP, Token.YES, Token.SKIP);
        CHECK.due("a walk that does not end does not count", desk.perhapsAtEnd(), 1);
    }

    private static void perhapsAtEndWhenNoneEnds() {
        CHECK.sentence("set at the end of some walk that ends, when none ends");
        CHECK.due("nothing set", Desks.with(Token.LOOP, Token.YES, Token.SKIP).perhapsAtEnd(), 0);
        CHECK.due("something set", Desks.with(Token.LOOP, Token.YES, Token.SET + 1).perhapsAtEnd(), 0);
    }

    private static void perhapsAtEndWhenIncomplete() {
        CHECK.sentence("perhapsAtEnd: NONE when the program is not complete");
        for (DefiniteDesk desk : incompleteOnes()) {
            CHECK.due("perhapsAtEnd", desk.perhapsAtEnd(), NONE);
        }
    }

    private static void badUsesByBit() {
        CHECK.sentence("The tokens USE and PEEK .. bit k for token k");
        CHECK.due("token 0", Desks.with(Token.USE + 3).badUses(), 1);
        DefiniteDesk desk = endingWith(Token.IF, Token.PEEK, Token.SKIP, Token.USE + 3);
        CHECK.due("tokens 19 and 21", desk.badUses(), Desks.bits(19, 21));
    }

    private static void badUsesOfUseAndPeekOnly() {
        CHECK.sentence("The tokens USE and PEEK");
        for (int token : Token.ALL) {
            boolean uses = token >= 12 && token <= 15 || token >= 28;
            DefiniteDesk desk = Token.kind(token) == 's' ? Desks.with(token) : Desks.with(Token.LOOP, token);
            int k = desk.length() - 1;
            for (char part : Token.parts(token).toCharArray()) {
                desk.feed(part == 's' ? Token.SKIP : Token.ASK);
            }
            desk.feed(Token.SKIP);
            CHECK.due("token " + token + ": complete", desk.complete(), true);
            CHECK.due("token " + token, desk.badUses(), uses ? 1 << k : 0);
        }
    }

    private static void badUsesOnSomeWalk() {
        CHECK.sentence("that some walk visits while their variable is unset");
        CHECK.due("set before", Desks.with(Token.PAIR, Token.SET + 3, Token.USE + 3).badUses(), 0);
        CHECK.due("set before on one way",
            Desks.with(Token.PAIR, Token.IF, Token.ASK, Token.SET, Token.SKIP, Token.USE).badUses(), 32);
        CHECK.due("unset the first time only", Desks.with(Token.LOOP, Token.PEEK, Token.SET).badUses(), 2);
        CHECK.due("set later", Desks.with(Token.PAIR, Token.USE, Token.SET).badUses(), 2);
        CHECK.due("not visited", Desks.with(Token.IF, Token.YES, Token.SKIP, Token.USE).badUses(), 0);
        CHECK.due("not visited", Desks.with(Token.LOOP, Token.BOTH, Token.NO, Token.PEEK, Token.SKIP).badUses(), 0);
    }

    private static void badUsesWhenIncomplete() {
        CHECK.sentence("badUses: 0 when the program is not complete");
        for (DefiniteDesk desk : incompleteOnes()) {
            CHECK.due("badUses", desk.badUses(), 0);
        }
    }

    private static void secondSetsByBit() {
        CHECK.sentence("The tokens SET and TRY .. bit k for token k");
        CHECK.due("token 0 is never a second one", Desks.with(Token.SET).secondSets(), 0);
        CHECK.due("token 1", Desks.with(Token.LOOP, Token.TRY, Token.SKIP).secondSets(), 2);
        DefiniteDesk desk = endingWith(Token.PAIR, Token.SET + 3, Token.IF, Token.TRY + 3, Token.SKIP, Token.SET + 3);
        CHECK.due("tokens 19 and 21", desk.secondSets(), Desks.bits(19, 21));
    }

    private static void secondSetsOfSetAndTryOnly() {
        CHECK.sentence("The tokens SET and TRY");
        int[] allSet = {Token.PAIR, Token.SET, Token.PAIR, Token.SET + 1,
            Token.PAIR, Token.SET + 2, Token.PAIR, Token.SET + 3};
        for (int token : Token.ALL) {
            boolean sets = token >= 8 && token <= 11 || token >= 24 && token <= 27;
            DefiniteDesk desk = Desks.with(allSet);
            if (Token.kind(token) == 'c') {
                desk.feed(Token.LOOP);
            }
            int k = desk.length();
            desk.feed(token);
            for (char part : Token.parts(token).toCharArray()) {
                desk.feed(part == 's' ? Token.SKIP : Token.ASK);
            }
            desk.feed(Token.SKIP);
            CHECK.due("token " + token + ": complete", desk.complete(), true);
            CHECK.due("token " + token, desk.secondSets(), sets ? 1 << k : 0);
        }
    }

    private static void secondSetsOnSomeWalk() {
        CHECK.sentence("that some walk visits while their variable is set already");
        CHECK.due("unset", Desks.with(Token.PAIR, Token.SET, Token.SET + 1).secondSets(), 0);
        CHECK.due("set before on one way",
            Desks.with(Token.PAIR, Token.IF, Token.ASK, Token.SET, Token.SKIP, Token.SET).secondSets(), 32);
        CHECK.due("set from the second time on", Desks.with(Token.LOOP, Token.ASK, Token.SET).secondSets(), 4);
        CHECK.due("never a second time", Desks.with(Token.LOOP, Token.ASK, Token.PAIR, Token.SET, Token.BREAK)
            .secondSets(), 0);
        CHECK.due("not visited",
            Desks.with(Token.PAIR, Token.SET, Token.IF, Token.YES, Token.SKIP, Token.SET).secondSets(), 0);
    }

    private static void secondSetsWhenIncomplete() {
        CHECK.sentence("secondSets: 0 when the program is not complete");
        for (DefiniteDesk desk : incompleteOnes()) {
            CHECK.due("secondSets", desk.secondSets(), 0);
        }
    }
}
