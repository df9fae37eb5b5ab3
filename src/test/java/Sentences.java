import java.util.function.Consumer;

/** Tests of single sentences of the document: each has a check, and a line of what comes out, of its own. */
final class Sentences {
    private final String where;
    private boolean held = true;

    Sentences(String where) {
        this.where = where;
    }

    void test(String sentence, Consumer<Check> test) {
        Check check = new Check(where + ", \"" + sentence + "\"");
        test.accept(check);
        held &= check.allRight();
    }

    void end() {
        if (!held) {
            System.exit(1);
        }
    }
}
