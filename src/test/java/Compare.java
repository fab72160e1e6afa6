import java.util.Arrays;

/** Asks the class and the model the same and tells where the answers part. */
final class Compare {
    private static final int[] DECISIONS = {0, -1, 1, 2, 5, 0x55555555, 0xaaaaaaaa, 0x80000000, 0x6d2b79f5};

    private Compare() {
    }

    static void program(Check check, int[] program) {
        DefiniteDesk desk = new DefiniteDesk();
        Model model = new Model();
        String name = Arrays.toString(program);
        for (int token : program) {
            check.due(name + " feed(" + token + ")", desk.feed(token), model.feed(token));
        }
        walks(check, name, desk, model);
        for (int decisions : DECISIONS) {
            run(check, name, desk, model, decisions);
        }
    }

    private static void walks(Check check, String name, DefiniteDesk desk, Model model) {
        check.due(name + " length", desk.length(), model.length());
        check.due(name + " complete", desk.complete(), model.complete());
        check.due(name + " visited", desk.visited(), model.visited());
        for (int k = -1; k <= model.length(); k++) {
            check.due(name + " surely(" + k + ")", desk.surely(k), model.surely(k));
            check.due(name + " perhaps(" + k + ")", desk.perhaps(k), model.perhaps(k));
        }
        check.due(name + " ends", desk.ends(), model.ends());
        check.due(name + " surelyAtEnd", desk.surelyAtEnd(), model.surelyAtEnd());
        check.due(name + " perhapsAtEnd", desk.perhapsAtEnd(), model.perhapsAtEnd());
        check.due(name + " badUses", desk.badUses(), model.badUses());
        check.due(name + " secondSets", desk.secondSets(), model.secondSets());
    }

    private static void run(Check check, String name, DefiniteDesk desk, Model model, int decisions) {
        String call = name + " run(" + decisions + ")";
        check.due(call, desk.run(decisions), model.run(decisions));
        check.due(call + " runSet", desk.runSet(), model.runSet());
        check.due(call + " runVisited", desk.runVisited(), model.runVisited());
        check.due(call + " runFaults", desk.runFaults(), model.runFaults());
    }

    /** One call, chosen by its number, with the argument that it takes, if it takes one. */
    static void call(Check check, String name, DefiniteDesk desk, Model model, int call, int argument) {
        String what = name + ", call " + call + " with " + argument;
        switch (call) {
            case 0: check.due(what, desk.feed(argument), model.feed(argument)); break;
            case 1: check.due(what, desk.back(), model.back()); break;
            case 2: desk.clear(); model.clear(); break;
            case 3: check.due(what, desk.length(), model.length()); break;
            case 4: check.due(what, desk.complete(), model.complete()); break;
            case 5: check.due(what, desk.visited(), model.visited()); break;
            case 6: check.due(what, desk.surely(argument), model.surely(argument)); break;
            case 7: check.due(what, desk.perhaps(argument), model.perhaps(argument)); break;
            case 8: check.due(what, desk.ends(), model.ends()); break;
            case 9: check.due(what, desk.surelyAtEnd(), model.surelyAtEnd()); break;
            case 10: check.due(what, desk.perhapsAtEnd(), model.perhapsAtEnd()); break;
            case 11: check.due(what, desk.badUses(), model.badUses()); break;
            case 12: check.due(what, desk.secondSets(), model.secondSets()); break;
            case 13: check.due(what, desk.run(argument), model.run(argument)); break;
            case 14: check.due(what, desk.runSet(), model.runSet()); break;
            case 15: check.due(what, desk.runVisited(), model.runVisited()); break;
            default: check.due(what, desk.runFaults(), model.runFaults()); break;
        }
    }
}
