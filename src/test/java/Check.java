import java.util.Objects;
import java.util.function.Consumer;

/** Counts and prints the answers that are not as due. */
final class Check {
    private String sentence = "";
    private int checks = 0;
    private int wrong = 0;

    /** One sentence of the document, tried on a new object. */
    void edge(String sentence, Consumer<PatchChains> test) {
        this.sentence = "\"" + sentence + "\": ";
        try {
            test.accept(new PatchChains());
        } catch (RuntimeException thrown) {
            due("nothing is thrown", thrown.toString(), "");
        }
        this.sentence = "";
    }

    void due(String what, Object got, Object want) {
        checks++;
        if (!Objects.equals(got, want)) {
            wrong++;
            System.out.println(sentence + what + ": answered " + got + ", due is " + want);
        }
    }

    void bad(String what, Object got) {
        due(what, got, PatchChains.BAD);
    }

    void finish() {
        System.out.println(checks + " checks, " + wrong + " wrong");
        if (wrong != 0 || checks == 0) {
            System.exit(1);
        }
    }
}
