import static java.lang.Integer.MAX_VALUE;
import static java.lang.Integer.MIN_VALUE;

/** The boundary cases that promises 1 to 6 name, sentence by sentence. */
public final class TokensBoundariesTest {
    private static final Check CHECK = new Check();
    private static final int NONE = DefiniteDesk.NONE;
    private static final int FULL = DefiniteDesk.FULL;
    private static final int[] NO_TOKENS = {
        2, 3, 7, 23, 32, 33, 36, 40, 48, 64, 255, 256, 256 + 16, 1 << 16, -1, -2, -16, -24, -28, -32, MIN_VALUE,
        MIN_VALUE + 8, MIN_VALUE + 16, MAX_VALUE - 15, MAX_VALUE,
    };

    public static void main(String[] args) {
        newObject();
        feedAnswersTheNumber();
        fullWhenThereAre22();
        fullWhenComplete();
        fullBeforeNone();
        noneWhenNoToken();
        noneWhenStatementForCondition();
        noneWhenConditionForStatement();
        refusedFeedChangesNothing();
        backAnswersTheLast();
        backOfTheLastOf22();
        backWhenThereIsNone();
        refusedBackChangesNothing();
        clearOfNone();
        clearOf22();
        clearOfAComplete();
        clearAmidConditions();
        lengthFrom0To22();
        completeOrNot();
        completeWith22();
        CHECK.finish();
    }

    private static void newObject() {
        CHECK.sentence("No tokens.");
        CHECK.due("length", new DefiniteDesk().length(), 0);
        CHECK.due("complete", new DefiniteDesk().complete(), false);
        CHECK.due("back", new DefiniteDesk().back(), NONE);
        CHECK.due("visited", new DefiniteDesk().visited(), 0);
        CHECK.due("surely(0)", new DefiniteDesk().surely(0), NONE);
        CHECK.due("perhaps(0)", new DefiniteDesk().perhaps(0), NONE);
        CHECK.due("ends", new DefiniteDesk().ends(), false);
        CHECK.due("surelyAtEnd", new DefiniteDesk().surelyAtEnd(), NONE);
        CHECK.due("perhapsAtEnd", new DefiniteDesk().perhapsAtEnd(), NONE);
        CHECK.due("badUses", new DefiniteDesk().badUses(), 0);
        CHECK.due("secondSets", new DefiniteDesk().secondSets(), 0);
        CHECK.due("run(0)", new DefiniteDesk().run(0), NONE);
        CHECK.due("feed of a statement", new DefiniteDesk().feed(Token.PAIR), 1);
        CHECK.due("feed of a condition", new DefiniteDesk().feed(Token.ASK), NONE);
        // Objects do not share their tokens.
        Desks.with(Token.SKIP);
        CHECK.due("length beside another object", new DefiniteDesk().length(), 0);
    }

    /** An incomplete program of 22 tokens; a statement must come next. */
    private static DefiniteDesk with22Pairs() {
        DefiniteDesk desk = new DefiniteDesk();
        for (int k = 0; k < 22; k++) {
            desk.feed(Token.PAIR);
        }
        return desk;
    }

    /** An incomplete program of 22 tokens; a condition must come next. */
    private static DefiniteDesk with22Picks() {
        DefiniteDesk desk = Desks.with(Token.IF);
        for (int k = 1; k < 22; k++) {
            desk.feed(Token.PICK);
        }
        return desk;
    }

    /** A complete program of as many tokens, 3 .. 22: LOOP (NOT .. ASK) (SET 2). */
    private static DefiniteDesk completeWith(int length) {
        DefiniteDesk desk = Desks.with(Token.LOOP);
        for (int k = 1; k < length - 2; k++) {
            desk.feed(Token.NOT);
        }
        desk.feed(Token.ASK);
        desk.feed(Token.SET + 2);
        return desk;
    }

    private static void feedAnswersTheNumber() {
        CHECK.sentence("Appends a token and answers the number of tokens now.");
        DefiniteDesk desk = new DefiniteDesk();
        CHECK.due("token 1", desk.feed(Token.LOOP), 1);
        for (int length = 2; length <= 20; length++) {
            CHECK.due("token " + length, desk.feed(Token.NOT), length);
        }
        CHECK.due("token 21", desk.feed(Token.ASK), 21);
        CHECK.due("token 22", desk.feed(Token.SKIP), 22);
        CHECK.due("the last one stands last", desk.back(), Token.SKIP);
        CHECK.due("the one before it", desk.back(), Token.ASK);
    }

    private static void fullWhenThereAre22() {
        CHECK.sentence("FULL when there are 22");
        CHECK.due("SKIP fits, but there are 22", with22Pairs().feed(Token.SKIP), FULL);
        CHECK.due("PAIR fits, but there are 22", with22Pairs().feed(Token.PAIR), FULL);
        CHECK.due("ASK fits, but there are 22", with22Picks().feed(Token.ASK), FULL);
        DefiniteDesk desk = with22Pairs();
        desk.back();
        CHECK.due("with 21", desk.feed(Token.PAIR), 22);
        CHECK.due("with 22 again", desk.feed(Token.PAIR), FULL);
        CHECK.due("length", desk.length(), 22);
    }

    private static void fullWhenComplete() {
        CHECK.sentence("FULL when .. the program is complete (one whole statement)");
        for (int token : Token.ALL) {
            CHECK.due("1 token, feed(" + token + ")", Desks.with(Token.SKIP).feed(token), FULL);
            CHECK.due("3 tokens, feed(" + token + ")", completeWith(3).feed(token), FULL);
            CHECK.due("21 tokens, feed(" + token + ")", completeWith(21).feed(token), FULL);
            CHECK.due("22 tokens, feed(" + token + ")", completeWith(22).feed(token), FULL);
        }
        DefiniteDesk desk = completeWith(21);
        desk.feed(Token.SKIP);
        CHECK.due("length after it", desk.length(), 21);
    }

    private static void fullBeforeNone() {
        CHECK.sentence("Answers, by the first that applies");
        for (int token : NO_TOKENS) {
            CHECK.due("22, feed(" + token + ")", with22Pairs().feed(token), FULL);
            CHECK.due("complete, feed(" + token + ")", Desks.with(Token.SKIP).feed(token), FULL);
            CHECK.due("22 and complete, feed(" + token + ")", completeWith(22).feed(token), FULL);
        }
        CHECK.due("22, a condition for a statement", with22Pairs().feed(Token.ASK), FULL);
        CHECK.due("22, a statement for a condition", with22Picks().feed(Token.SKIP), FULL);
        CHECK.due("complete, a condition", Desks.with(Token.SKIP).feed(Token.ASK), FULL);
    }

    private static void noneWhenNoToken() {
        CHECK.sentence("NONE when token is not one of those above");
        for (int token : NO_TOKENS) {
            DefiniteDesk statement = new DefiniteDesk();
            CHECK.due("for a statement, feed(" + token + ")", statement.feed(token), NONE);
            CHECK.due("for a statement, length", statement.length(), 0);
            DefiniteDesk condition = Desks.with(Token.IF);
            CHECK.due("for a condition, feed(" + token + ")", condition.feed(token), NONE);
            CHECK.due("for a condition, length", condition.length(), 1);
            DefiniteDesk last = completeWith(22);
            last.back();
            CHECK.due("for token 22, feed(" + token + ")", last.feed(token), NONE);
            CHECK.due("for token 22, length", last.length(), 21);
        }
    }

    private static void noneWhenStatementForCondition() {
        CHECK.sentence("it is a statement where a condition must come");
        int[][] places = {
            {Token.LOOP}, {Token.IF}, {Token.IF, Token.NOT}, {Token.IF, Token.BOTH}, {Token.IF, Token.BOTH, Token.YES},
            {Token.IF, Token.ANY}, {Token.IF, Token.ANY, Token.YES}, {Token.IF, Token.PICK},
            {Token.IF, Token.PICK, Token.YES}, {Token.IF, Token.PICK, Token.YES, Token.NO},
            {Token.PAIR, Token.LOOP}, {Token.PAIR, Token.SKIP, Token.IF},
        };
        for (int[] before : places) {
            for (int token : Token.ALL) {
                boolean fits = token >= 16;
                DefiniteDesk desk = Desks.with(before);
                CHECK.due("behind " + before.length + " tokens, feed(" + token + ")",
                    desk.feed(token), fits ? before.length + 1 : NONE);
            }
        }
    }

    private static void noneWhenConditionForStatement() {
        CHECK.sentence("or a condition where a statement must come");
        int[][] places = {
            {}, {Token.PAIR}, {Token.PAIR, Token.SKIP}, {Token.IF, Token.ASK}, {Token.IF, Token.ASK, Token.SKIP},
            {Token.LOOP, Token.ASK}, {Token.LOOP, Token.NOT, Token.ASK}, {Token.LOOP, Token.BOTH, Token.ASK, Token.ASK},
            {Token.LOOP, Token.ANY, Token.ASK, Token.ASK}, {Token.LOOP, Token.PICK, Token.ASK, Token.ASK, Token.ASK},
            {Token.PAIR, Token.LOOP, Token.ASK, Token.SKIP}, {Token.PAIR, Token.IF, Token.ASK, Token.SKIP, Token.SKIP},
        };
        for (int[] before : places) {
            for (int token : Token.ALL) {
                boolean fits = token < 16;
                DefiniteDesk desk = Desks.with(before);
                CHECK.due("behind " + before.length + " tokens, feed(" + token + ")",
                    desk.feed(token), fits ? before.length + 1 : NONE);
            }
        }
    }

    private static void refusedFeedChangesNothing() {
        CHECK.sentence("a refused feed appends nothing");
        DefiniteDesk desk = Desks.with(Token.PAIR, Token.USE);
        CHECK.due("no token", desk.feed(7), NONE);
        CHECK.due("a condition", desk.feed(Token.PICK), NONE);
        CHECK.due("length after NONE", desk.length(), 2);
        CHECK.due("complete after NONE", desk.complete(), false);
        CHECK.due("what must come is the same", desk.feed(Token.SET + 1), 3);
        CHECK.due("complete then", desk.complete(), true);
        CHECK.due("FULL", desk.feed(Token.SET + 2), FULL);
        CHECK.due("FULL again", desk.feed(Token.LOOP), FULL);
        CHECK.due("length after FULL", desk.length(), 3);
        CHECK.due("complete after FULL", desk.complete(), true);
        CHECK.due("surelyAtEnd after FULL", desk.surelyAtEnd(), 2);
        CHECK.due("badUses after FULL", desk.badUses(), 2);
        CHECK.due("run after FULL", desk.run(0), 3);
        CHECK.due("the last token is the last taken", desk.back(), Token.SET + 1);
        desk = with22Picks();
        desk.feed(Token.ASK);
        CHECK.due("the last of 22 after FULL", desk.back(), Token.PICK);
    }

    private static void backAnswersTheLast() {
        CHECK.sentence("Takes the last token away and answers it");
        for (int token : Token.ALL) {
            int[] before = token < 16 ? new int[] {Token.PAIR, Token.SKIP} : new int[] {Token.PAIR, Token.IF};
            DefiniteDesk desk = Desks.with(before);
            desk.feed(token);
            CHECK.due("token " + token, desk.back(), token);
            CHECK.due("length after it", desk.length(), 2);
            CHECK.due("complete after it", desk.complete(), false);
            CHECK.due("the other kind does not fit then", desk.feed(token < 16 ? Token.YES : Token.SKIP), NONE);
            CHECK.due("the same fits again", desk.feed(token), 3);
        }
        DefiniteDesk single = Desks.with(Token.SKIP);
        CHECK.due("SKIP alone", single.back(), 0);
        CHECK.due("SKIP alone: length", single.length(), 0);
        CHECK.due("SKIP alone: another one fits", single.feed(Token.SET), 1);
        CHECK.due("SKIP alone: the other one counts", single.surelyAtEnd(), 1);
    }

    private static void backOfTheLastOf22() {
        CHECK.sentence("Takes the last token away, of 22");
        DefiniteDesk desk = with22Picks();
        for (int length = 21; length > 0; length--) {
            CHECK.due("back to " + length, desk.back(), Token.PICK);
            CHECK.due("length " + length, desk.length(), length);
        }
        CHECK.due("back to 0", desk.back(), Token.IF);
        desk = completeWith(22);
        CHECK.due("of a complete one", desk.back(), Token.SET + 2);
        CHECK.due("of a complete one: complete", desk.complete(), false);
        CHECK.due("of a complete one: length", desk.length(), 21);
        CHECK.due("of a complete one: feed", desk.feed(Token.SKIP), 22);
        CHECK.due("of a complete one: complete again", desk.complete(), true);
        CHECK.due("of a complete one: perhapsAtEnd", desk.perhapsAtEnd(), 0);
    }

    private static void backWhenThereIsNone() {
        CHECK.sentence("NONE when there is none");
        DefiniteDesk desk = new DefiniteDesk();
        CHECK.due("new", desk.back(), NONE);
        CHECK.due("new, again", desk.back(), NONE);
        desk.feed(Token.BREAK);
        CHECK.due("the one", desk.back(), Token.BREAK);
        CHECK.due("after the one", desk.back(), NONE);
        desk.feed(Token.IF);
        desk.feed(Token.ASK);
        desk.clear();
        CHECK.due("after clear", desk.back(), NONE);
        desk.feed(Token.ASK);
        CHECK.due("after a refused feed", desk.back(), NONE);
    }

    private static void refusedBackChangesNothing() {
        CHECK.sentence("a refused back takes nothing");
        DefiniteDesk desk = new DefiniteDesk();
        for (int i = 0; i < 30; i++) {
            desk.back();
        }
        CHECK.due("length", desk.length(), 0);
        CHECK.due("complete", desk.complete(), false);
        CHECK.due("a condition", desk.feed(Token.YES), NONE);
        CHECK.due("a statement", desk.feed(Token.LOOP), 1);
        CHECK.due("its condition", desk.feed(Token.YES), 2);
    }

    private static void empty(String when, DefiniteDesk desk) {
        CHECK.due(when + ": length", desk.length(), 0);
        CHECK.due(when + ": complete", desk.complete(), false);
        CHECK.due(when + ": visited", desk.visited(), 0);
        CHECK.due(when + ": surely(0)", desk.surely(0), NONE);
        CHECK.due(when + ": back", desk.back(), NONE);
        CHECK.due(when + ": a condition", desk.feed(Token.YES), NONE);
        CHECK.due(when + ": a statement", desk.feed(Token.USE + 3), 1);
        CHECK.due(when + ": complete with it", desk.complete(), true);
        CHECK.due(when + ": badUses of it", desk.badUses(), 1);
        CHECK.due(when + ": surely(1)", desk.surely(1), NONE);
    }

    private static void clearOfNone() {
        CHECK.sentence("Takes all tokens away, of none");
        DefiniteDesk desk = new DefiniteDesk();
        desk.clear();
        desk.clear();
        empty("new", desk);
    }

    private static void clearOf22() {
        CHECK.sentence("Takes all tokens away, of 22");
        DefiniteDesk desk = with22Picks();
        desk.clear();
        CHECK.due("22 fit again", desk.feed(Token.PAIR), 1);
        for (int length = 2; length <= 22; length++) {
            CHECK.due("22 fit again", desk.feed(Token.PAIR), length);
        }
        desk.clear();
        empty("22", desk);
        desk = completeWith(22);
        desk.clear();
        empty("complete with 22", desk);
    }

    private static void clearOfAComplete() {
        CHECK.sentence("Takes all tokens away, of a complete program");
        DefiniteDesk desk = Desks.with(Token.SET);
        desk.clear();
        empty("SET", desk);
        // What the program before visited and set does not come through.
        desk = Desks.with(Token.PAIR, Token.SET, Token.SET + 1);
        desk.clear();
        desk.feed(Token.LOOP);
        desk.feed(Token.YES);
        desk.feed(Token.SKIP);
        CHECK.due("ends", desk.ends(), false);
        CHECK.due("perhaps(2)", desk.perhaps(2), 0);
        CHECK.due("surelyAtEnd", desk.surelyAtEnd(), 15);
    }

    private static void clearAmidConditions() {
        CHECK.sentence("Takes all tokens away, where a condition must come");
        DefiniteDesk desk = Desks.with(Token.IF, Token.BOTH);
        desk.clear();
        empty("IF BOTH", desk);
    }

    private static void lengthFrom0To22() {
        CHECK.sentence("The number of tokens.");
        DefiniteDesk desk = new DefiniteDesk();
        for (int length = 0; length < 22; length++) {
            CHECK.due("before feed", desk.length(), length);
            desk.feed(Token.PAIR);
        }
        CHECK.due("at most", desk.length(), 22);
        desk.feed(Token.PAIR);
        CHECK.due("after a refused feed", desk.length(), 22);
        for (int length = 22; length > 0; length--) {
            CHECK.due("before back", desk.length(), length);
            desk.back();
        }
        CHECK.due("at least", desk.length(), 0);
        desk.back();
        CHECK.due("after a refused back", desk.length(), 0);
    }

    private static void completeOrNot() {
        CHECK.sentence("Whether the program is complete.");
        CHECK.due("no token", new DefiniteDesk().complete(), false);
        CHECK.due("one token without parts", Desks.with(Token.BREAK).complete(), true);
        CHECK.due("PAIR", Desks.with(Token.PAIR).complete(), false);
        CHECK.due("PAIR SKIP", Desks.with(Token.PAIR, Token.SKIP).complete(), false);
        CHECK.due("PAIR SKIP SKIP", Desks.with(Token.PAIR, Token.SKIP, Token.SKIP).complete(), true);
        CHECK.due("LOOP", Desks.with(Token.LOOP).complete(), false);
        CHECK.due("LOOP NO", Desks.with(Token.LOOP, Token.NO).complete(), false);
        CHECK.due("LOOP NO SKIP", Desks.with(Token.LOOP, Token.NO, Token.SKIP).complete(), true);
        CHECK.due("IF NO SKIP", Desks.with(Token.IF, Token.NO, Token.SKIP).complete(), false);
        CHECK.due("IF NO SKIP SKIP", Desks.with(Token.IF, Token.NO, Token.SKIP, Token.SKIP).complete(), true);
        DefiniteDesk desk = Desks.with(Token.SKIP);
        desk.feed(Token.PAIR);
        CHECK.due("after a refused feed", desk.complete(), true);
        desk.back();
        CHECK.due("after back", desk.complete(), false);
        desk.feed(Token.SKIP);
        CHECK.due("after feed", desk.complete(), true);
        desk.clear();
        CHECK.due("after clear", desk.complete(), false);
    }

    private static void completeWith22() {
        CHECK.sentence("Whether the program is complete, with 22 tokens");
        CHECK.due("one part is missing", with22Pairs().complete(), false);
        CHECK.due("none is missing", completeWith(22).complete(), true);
        DefiniteDesk desk = completeWith(22);
        desk.back();
        CHECK.due("the last is missing", desk.complete(), false);
    }
}
