import java.util.HashSet;
import java.util.List;
import java.util.Set;

/** Runs tests, each on a card of its own, and prints the name of each one that fails. */
final class Cases {
    interface Body {
        void on(Card card);
    }

    private static final int MOST_PRINTED = 5;

    private final Set<String> names = new HashSet<>();
    private int failed = 0;

    /** The name tells the promise and the case. */
    void test(String name, Body body) {
        Card card = new Card();
        if (!names.add(name)) {
            card.fault("the test itself is wrong: another one bears its name");
        }
        try {
            body.on(card);
        } catch (RuntimeException | Error thrown) {
            card.fault("call " + card.calls() + " threw " + thrown);
        }
        if (!card.faults().isEmpty()) {
            failed++;
            print(name, card.faults());
        }
    }

    private static void print(String name, List<String> faults) {
        System.out.println("FAILED " + name);
        faults.stream().limit(MOST_PRINTED).forEach(fault -> System.out.println("    " + fault));
        if (faults.size() > MOST_PRINTED) {
            System.out.println("    and " + (faults.size() - MOST_PRINTED) + " more");
        }
    }

    void end() {
        System.out.println((names.size() - failed) + " of " + names.size() + " cases hold");
        if (failed != 0) {
            System.exit(1);
        }
    }
}
