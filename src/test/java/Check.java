import java.util.Objects;

/** Counts and prints the answers that are not as due. */
final class Check {
    private int checks = 0;
    private int wrong = 0;

    void due(String what, Object got, Object want) {
        checks++;
        if (!Objects.equals(got, want)) {
            wrong++;
            System.out.println(what + ": answered " + got + ", due is " + want);
        }
    }

    void finish() {
        System.out.println(checks + " checks, " + wrong + " wrong");
        if (wrong != 0 || checks == 0) {
            System.exit(1);
        }
    }
}
