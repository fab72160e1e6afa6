/** Says which variables are set when they are used, in small programs with conditions that have effects. */
public final class DefiniteDesk {
    public static final int NONE = -1;
    public static final int FULL = -2;

    private static final int BREAK = 1;
    private static final int PAIR = 4;
    private static final int IF = 5;
    private static final int LOOP = 6;
    private static final int NO_STATEMENT = 7;
    private static final int FIRST_SET = 8;
    private static final int FIRST_USE = 12;
    private static final int FIRST_CONDITION = 16;
    private static final int YES = 16;
    private static final int NO = 17;
    private static final int ASK = 18;
    private static final int NOT = 19;
    private static final int BOTH = 20;
    private static final int ANY = 21;
    private static final int PICK = 22;
    private static final int NO_CONDITION = 23;
    private static final int FIRST_TRY = 24;
    private static final int FIRST_PEEK = 28;
    private static final int LAST_TOKEN = 31;

    private static final int VARIABLES = 4;
    private static final int SETTINGS = 16;
    private static final int ALL_VARIABLES = 15;
    private static final int MOST_TOKENS = 22;
    private static final int MOST_VISITS = 100;

    // The end of the program is one more place that a walk can come to, behind every token.
    private static final int END = 22;
    private static final int PLACES = 23;

    // One part is open at first, and a token closes one part and opens three at the most.
    private static final int MOST_OPEN_PARTS = 45;

    // Every pass but the last finds at least one new setting at one place.
    private static final int MOST_PASSES = 369;

    private final int[] tokens = new int[MOST_TOKENS];
    private int count;

    // The parts that must still come, the next one on top: true for a condition, false for a statement.
    private final boolean[] openParts = new boolean[MOST_OPEN_PARTS];
    private int openCount;

    // For the part that begins at a token: the place behind its last token, and the places
    // where a walk goes on when the part is over (for a statement both are the same).
    private final int[] behind = new int[PLACES];
    private final int[] afterTrue = new int[PLACES];
    private final int[] afterFalse = new int[PLACES];
    private final int[] afterBreak = new int[PLACES];

    // A setting is the set of variables that are set, 0 .. 15. Bit s of an entry says that some
    // walk comes to the place with setting s; that is exact, since nothing else about the past of
    // a walk tells how it can go on. Valid while the program is complete.
    private final int[] settingsAt = new int[PLACES];

    private int lastRunSet;
    private int lastRunVisited;
    private int lastRunFaults;

    public DefiniteDesk() {
        forgetTokens();
    }

    public int feed(int token) {
        if (count >= MOST_TOKENS || openCount == 0) {
            return FULL;
        }
        if (!isToken(token) || isCondition(token) != openParts[openCount - 1]) {
            return NONE;
        }
        append(token);
        if (openCount == 0) {
            linkParts();
            followAllWalks();
        }
        return count;
    }

    public int back() {
        if (count == 0) {
            return NONE;
        }
        int kept = count - 1;
        int last = tokens[kept];
        forgetTokens();
        for (int k = 0; k < kept; k++) {
            append(tokens[k]);
        }
        return last;
    }

    public void clear() {
        forgetTokens();
    }

    public int length() {
        return count;
    }

    public boolean complete() {
        return openCount == 0;
    }

    public int visited() {
        if (openCount != 0) {
            return 0;
        }
        int result = 0;
        for (int k = 0; k < count; k++) {
            if (settingsAt[k] != 0) {
                result |= 1 << k;
            }
        }
        return result;
    }

    public int surely(int k) {
        if (openCount != 0 || k < 0 || k >= count) {
            return NONE;
        }
        return setInAll(settingsAt[k]);
    }

    public int perhaps(int k) {
        if (openCount != 0 || k < 0 || k >= count) {
            return NONE;
        }
        return setInSome(settingsAt[k]);
    }

    public boolean ends() {
        return openCount == 0 && settingsAt[END] != 0;
    }

    public int surelyAtEnd() {
        if (openCount != 0) {
            return NONE;
        }
        return setInAll(settingsAt[END]);
    }

    public int perhapsAtEnd() {
        if (openCount != 0) {
            return NONE;
        }
        return setInSome(settingsAt[END]);
    }

    public int badUses() {
        if (openCount != 0) {
            return 0;
        }
        int result = 0;
        for (int k = 0; k < count; k++) {
            int everywhere = setInAll(settingsAt[k]);
            if (isUsing(tokens[k]) && (everywhere & variableBit(tokens[k])) == 0) {
                result |= 1 << k;
            }
        }
        return result;
    }

    public int secondSets() {
        if (openCount != 0) {
            return 0;
        }
        int result = 0;
        for (int k = 0; k < count; k++) {
            int somewhere = setInSome(settingsAt[k]);
            if (isSetting(tokens[k]) && (somewhere & variableBit(tokens[k])) != 0) {
                result |= 1 << k;
            }
        }
        return result;
    }

    public int run(int decisions) {
        if (openCount != 0) {
            return NONE;
        }
        lastRunSet = 0;
        lastRunVisited = 0;
        lastRunFaults = 0;
        int visits = 0;
        int decided = 0;
        int place = 0;
        while (visits < MOST_VISITS && place != END) {
            visits++;
            int token = tokens[place];
            boolean outcome = (decisions >>> (decided % 32) & 1) == 1;
            if (isUndecided(token)) {
                decided++;
            }
            noteVisit(place, token);
            place = placeAfter(place, outcome);
        }
        return visits;
    }

    public int runSet() {
        return lastRunSet;
    }

    public int runVisited() {
        return lastRunVisited;
    }

    public int runFaults() {
        return lastRunFaults;
    }

    private static boolean isToken(int token) {
        if (token < 0 || token > LAST_TOKEN) {
            return false;
        }
        boolean isListed = token <= BREAK || token >= PAIR;
        return isListed && token != NO_STATEMENT && token != NO_CONDITION;
    }

    private static boolean isCondition(int token) {
        return token >= FIRST_CONDITION;
    }

    private static boolean isSetting(int token) {
        boolean isSet = token >= FIRST_SET && token < FIRST_SET + VARIABLES;
        boolean isTry = token >= FIRST_TRY && token < FIRST_TRY + VARIABLES;
        return isSet || isTry;
    }

    private static boolean isUsing(int token) {
        boolean isUse = token >= FIRST_USE && token < FIRST_USE + VARIABLES;
        boolean isPeek = token >= FIRST_PEEK && token < FIRST_PEEK + VARIABLES;
        return isUse || isPeek;
    }

    private static boolean isUndecided(int token) {
        return token == ASK || token >= FIRST_TRY;
    }

    // SET, USE, TRY and PEEK each begin at a multiple of the number of variables.
    private static int variableBit(int token) {
        return 1 << (token & (VARIABLES - 1));
    }

    private static int partCount(int token) {
        switch (token) {
            case NOT:
                return 1;
            case PAIR:
            case LOOP:
            case BOTH:
            case ANY:
                return 2;
            case IF:
            case PICK:
                return 3;
            default:
                return 0;
        }
    }

    private static boolean partIsCondition(int token, int part) {
        if (token == IF || token == LOOP) {
            return part == 0;
        }
        return isCondition(token);
    }

    private void forgetTokens() {
        count = 0;
        openParts[0] = false;
        openCount = 1;
    }

    // Only for a token that fits the open part on top.
    private void append(int token) {
        tokens[count] = token;
        count++;
        openCount--;
        for (int part = partCount(token) - 1; part >= 0; part--) {
            openParts[openCount] = partIsCondition(token, part);
            openCount++;
        }
    }

    private void linkParts() {
        // A part ends where the last of its own parts ends, so what stands later is measured first.
        for (int k = count - 1; k >= 0; k--) {
            int place = k + 1;
            int parts = partCount(tokens[k]);
            for (int part = 0; part < parts; part++) {
                place = behind[place];
            }
            behind[k] = place;
        }
        linkPart(0, END, END, END);
        for (int k = 0; k < count; k++) {
            if (isCondition(tokens[k])) {
                linkPartsOfCondition(k);
            } else {
                linkPartsOfStatement(k);
            }
        }
    }

    private void linkPart(int k, int whenTrue, int whenFalse, int whenBroken) {
        afterTrue[k] = whenTrue;
        afterFalse[k] = whenFalse;
        afterBreak[k] = whenBroken;
    }

    private void linkPartsOfStatement(int k) {
        int over = afterTrue[k];
        int broken = afterBreak[k];
        int first = k + 1;
        int second = behind[first];
        switch (tokens[k]) {
            case PAIR:
                linkPart(first, second, second, broken);
                linkPart(second, over, over, broken);
                break;
            case IF:
                linkPart(first, second, behind[second], END);
                linkPart(second, over, over, broken);
                linkPart(behind[second], over, over, broken);
                break;
            case LOOP:
                linkPart(first, second, over, END);
                linkPart(second, k, k, over);
                break;
            default:
                break;
        }
    }

    private void linkPartsOfCondition(int k) {
        int whenTrue = afterTrue[k];
        int whenFalse = afterFalse[k];
        int first = k + 1;
        int second = behind[first];
        switch (tokens[k]) {
            case NOT:
                linkPart(first, whenFalse, whenTrue, END);
                break;
            case BOTH:
                linkPart(first, second, whenFalse, END);
                linkPart(second, whenTrue, whenFalse, END);
                break;
            case ANY:
                linkPart(first, whenTrue, second, END);
                linkPart(second, whenTrue, whenFalse, END);
                break;
            case PICK:
                linkPart(first, second, behind[second], END);
                linkPart(second, whenTrue, whenFalse, END);
                linkPart(behind[second], whenTrue, whenFalse, END);
                break;
            default:
                break;
        }
    }

    // Where a walk goes on from a token; the outcome counts only where the token leaves it open.
    private int placeAfter(int k, boolean outcome) {
        int token = tokens[k];
        if (partCount(token) > 0) {
            return k + 1;
        }
        if (token == BREAK) {
            return afterBreak[k];
        }
        if (token == YES) {
            return afterTrue[k];
        }
        if (token == NO) {
            return afterFalse[k];
        }
        return outcome ? afterTrue[k] : afterFalse[k];
    }

    private void followAllWalks() {
        for (int k = 0; k < PLACES; k++) {
            settingsAt[k] = 0;
        }
        // A walk begins with the empty setting.
        settingsAt[0] = 1;
        boolean grown = true;
        for (int pass = 0; pass < MOST_PASSES && grown; pass++) {
            grown = false;
            for (int k = 0; k < count; k++) {
                grown |= passOn(k);
            }
        }
    }

    // Answers whether a place that follows the token got a setting that it had not before.
    private boolean passOn(int k) {
        int settings = settingsAt[k];
        if (isSetting(tokens[k])) {
            int bit = variableBit(tokens[k]);
            settings = withVariable(settings, bit);
        }
        int onTrue = placeAfter(k, true);
        int onFalse = placeAfter(k, false);
        boolean grown = (settings & ~settingsAt[onTrue]) != 0 || (settings & ~settingsAt[onFalse]) != 0;
        settingsAt[onTrue] |= settings;
        settingsAt[onFalse] |= settings;
        return grown;
    }

    private static int withVariable(int settings, int bit) {
        int result = 0;
        for (int setting = 0; setting < SETTINGS; setting++) {
            if ((settings >>> setting & 1) == 1) {
                result |= 1 << (setting | bit);
            }
        }
        return result;
    }

    private static int setInAll(int settings) {
        int result = ALL_VARIABLES;
        for (int setting = 0; setting < SETTINGS; setting++) {
            if ((settings >>> setting & 1) == 1) {
                result &= setting;
            }
        }
        return result;
    }

    private static int setInSome(int settings) {
        int result = 0;
        for (int setting = 0; setting < SETTINGS; setting++) {
            if ((settings >>> setting & 1) == 1) {
                result |= setting;
            }
        }
        return result;
    }

    private void noteVisit(int place, int token) {
        lastRunVisited |= 1 << place;
        if (isUsing(token) && (lastRunSet & variableBit(token)) == 0) {
            lastRunFaults++;
        }
        if (isSetting(token)) {
            lastRunSet |= variableBit(token);
        }
    }
}
