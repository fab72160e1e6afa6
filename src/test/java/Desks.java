/** Makes objects that hold a program. */
final class Desks {
    private Desks() {
    }

    static DefiniteDesk with(int... program) {
        DefiniteDesk desk = new DefiniteDesk();
        for (int token : program) {
            desk.feed(token);
        }
        return desk;
    }

    /** A bit for each of the numbers. */
    static int bits(int... numbers) {
        int result = 0;
        for (int number : numbers) {
            result |= 1 << number;
        }
        return result;
    }
}
