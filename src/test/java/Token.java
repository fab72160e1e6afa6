/** The tokens by their names in the document. */
final class Token {
    static final int SKIP = 0;
    static final int BREAK = 1;
    static final int PAIR = 4;
    static final int IF = 5;
    static final int LOOP = 6;
    static final int SET = 8;
    static final int USE = 12;
    static final int YES = 16;
    static final int NO = 17;
    static final int ASK = 18;
    static final int NOT = 19;
    static final int BOTH = 20;
    static final int ANY = 21;
    static final int PICK = 22;
    static final int TRY = 24;
    static final int PEEK = 28;

    /** Every number that is a token. */
    static final int[] ALL = {
        0, 1, 4, 5, 6, 8, 9, 10, 11, 12, 13, 14, 15,
        16, 17, 18, 19, 20, 21, 22, 24, 25, 26, 27, 28, 29, 30, 31,
    };

    private Token() {
    }

    /** The kinds of a token's parts, 's' a statement and 'c' a condition. */
    static String parts(int token) {
        switch (token) {
            case PAIR: return "ss";
            case IF: return "css";
            case LOOP: return "cs";
            case NOT: return "c";
            case BOTH: return "cc";
            case ANY: return "cc";
            case PICK: return "ccc";
            default: return "";
        }
    }

    static char kind(int token) {
        return token < YES ? 's' : 'c';
    }

    static boolean in(int first, int token) {
        return token >= first && token <= first + 3;
    }
}
