public final class NewObjectTest {
    public static void main(String[] args) {
        Check check = new Check();
        check.due("length of a new object", new DefiniteDesk().length(), 0);
        check.finish();
    }
}
