/** What the tests of the document's sentences share: machines that many of them begin with, and wrong numbers. */
abstract class Edges {
    static final String TEN_FIFTY = "coin(10, 10) = 0; coin(50, 10) = 1;";
    static final String WITH_NOTE = TEN_FIFTY + "note(100) = 2;";
    /** No kinds of the machine with three. */
    static final String NO_KIND = "{3 .. 7, -1, -2, 1000, min, max}";

    final Sentences s;

    Edges(Sentences s) {
        this.s = s;
    }
}
