/** Promises 1 to 6: a new object, feed, back, clear, length and complete. */
public final class TokensTest {
    private static final Check CHECK = new Check();

    public static void main(String[] args) {
        everyNumberAsFirstToken();
        everyNumberAsCondition();
        incompleteWithAllTokens();
        completeWithAllTokens();
        partsInTheirOrder();
        takesTokensBack();
        CHECK.finish();
    }

    private static void everyNumberAsFirstToken() {
        for (int token = -40; token < 80; token++) {
            boolean leaf = token == 0 || token == 1 || token >= 8 && token <= 15;
            boolean statement = leaf || token == 4 || token == 5 || token == 6;
            DefiniteDesk desk = new DefiniteDesk();
            CHECK.due("first feed(" + token + ")", desk.feed(token), statement ? 1 : DefiniteDesk.NONE);
            CHECK.due("length after feed(" + token + ")", desk.length(), statement ? 1 : 0);
            CHECK.due("complete after feed(" + token + ")", desk.complete(), leaf);
        }
        CHECK.due("least int", new DefiniteDesk().feed(Integer.MIN_VALUE), DefiniteDesk.NONE);
        CHECK.due("greatest int", new DefiniteDesk().feed(Integer.MAX_VALUE), DefiniteDesk.NONE);
    }

    private static void everyNumberAsCondition() {
        for (int token = -40; token < 80; token++) {
            boolean condition = token >= 16 && token <= 31 && token != 23;
            DefiniteDesk desk = Desks.with(Token.LOOP);
            CHECK.due("LOOP feed(" + token + ")", desk.feed(token), condition ? 2 : DefiniteDesk.NONE);
            CHECK.due("length after LOOP feed(" + token + ")", desk.length(), condition ? 2 : 1);
            CHECK.due("complete after LOOP feed(" + token + ")", desk.complete(), false);
        }
    }

    private static void incompleteWithAllTokens() {
        int[] heads = {Token.PAIR, Token.IF, Token.LOOP};
        for (int head : heads) {
            DefiniteDesk desk = Desks.with(head);
            int deep = head == Token.PAIR ? Token.PAIR : Token.PICK;
            for (int length = 2; length <= 22; length++) {
                CHECK.due("deep feed under " + head, desk.feed(deep), length);
            }
            CHECK.due("22 tokens: complete", desk.complete(), false);
            CHECK.due("22 tokens: a fitting token", desk.feed(deep), DefiniteDesk.FULL);
            CHECK.due("22 tokens: no token", desk.feed(7), DefiniteDesk.FULL);
            CHECK.due("22 tokens: length", desk.length(), 22);
            CHECK.due("22 tokens: visited", desk.visited(), 0);
            CHECK.due("22 tokens: run", desk.run(0), DefiniteDesk.NONE);
            CHECK.due("22 tokens: back", desk.back(), deep);
            CHECK.due("21 tokens: feed", desk.feed(deep), 22);
        }
    }

    private static void completeWithAllTokens() {
        DefiniteDesk desk = Desks.with(Token.LOOP);
        for (int i = 0; i < 19; i++) {
            desk.feed(Token.NOT);
        }
        CHECK.due("token 21", desk.feed(Token.ASK), 21);
        CHECK.due("21 tokens: complete", desk.complete(), false);
        CHECK.due("token 22", desk.feed(Token.SET + 2), 22);
        CHECK.due("whole with 22 tokens: complete", desk.complete(), true);
        CHECK.due("whole with 22 tokens: visited", desk.visited(), 0x3fffff);
        CHECK.due("whole with 22 tokens: feed", desk.feed(Token.SKIP), DefiniteDesk.FULL);
        CHECK.due("whole with 22 tokens: perhapsAtEnd", desk.perhapsAtEnd(), 4);
    }

    private static void partsInTheirOrder() {
        for (int token : Token.ALL) {
            String parts = Token.parts(token);
            DefiniteDesk desk = Token.kind(token) == 's' ? Desks.with(token) : Desks.with(Token.LOOP, token);
            for (char part : parts.toCharArray()) {
                int fits = part == 's' ? Token.SKIP : Token.YES;
                int other = part == 's' ? Token.YES : Token.SKIP;
                int length = desk.length();
                CHECK.due("part of " + token + ", not yet complete", desk.complete(), false);
                CHECK.due("part of " + token + ", other kind", desk.feed(other), DefiniteDesk.NONE);
                CHECK.due("part of " + token, desk.feed(fits), length + 1);
            }
            if (Token.kind(token) == 'c') {
                CHECK.due("body after " + token, desk.feed(Token.YES), DefiniteDesk.NONE);
                CHECK.due("body after " + token, desk.feed(Token.SKIP), desk.length());
            }
            CHECK.due("complete with " + token, desk.complete(), true);
        }
    }

    private static void takesTokensBack() {
        int[] program = {Token.PAIR, Token.IF, Token.PICK, Token.ASK, Token.TRY + 1, Token.NOT, Token.PEEK + 3,
            Token.SET, Token.BREAK, Token.LOOP, Token.BOTH, Token.NO, Token.ANY, Token.YES, Token.ASK, Token.USE + 2};
        DefiniteDesk desk = Desks.with(program);
        CHECK.due("before back: complete", desk.complete(), true);
        for (int k = program.length - 1; k >= 0; k--) {
            CHECK.due("back of token " + k, desk.back(), program[k]);
            CHECK.due("length after back of token " + k, desk.length(), k);
            CHECK.due("complete after back of token " + k, desk.complete(), false);
            int other = Token.kind(program[k]) == 's' ? Token.YES : Token.SKIP;
            CHECK.due("other kind after back of token " + k, desk.feed(other), DefiniteDesk.NONE);
            CHECK.due("same again after back of token " + k, desk.feed(program[k]), k + 1);
            desk.back();
        }
        CHECK.due("back when none is left", desk.back(), DefiniteDesk.NONE);
        CHECK.due("feed after all were taken back", desk.feed(Token.USE), 1);
    }

}
