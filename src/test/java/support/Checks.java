import java.util.ArrayList;
import java.util.List;

/** Counts the answers that are not as due, and says which promise each belongs to. */
final class Checks {
    interface Call { Object ask(); }

    private final List<String> faults = new ArrayList<>();
    private int done = 0;

    void due(int promise, String what, Object want, Object got) {
        done++;
        if (!want.equals(got)) faults.add("promise " + promise + ": " + what + " answered " + got + ", due is " + want);
    }

    void dueThrow(int promise, String what, Class<? extends RuntimeException> want, Call call) {
        Object got;
        try {
            got = call.ask();
        } catch (RuntimeException e) {
            got = e.getClass();
        }
        due(promise, what, want, got);
    }

    void end() {
        for (String fault : faults) System.out.println(fault);
        System.out.println(done + " checks, " + faults.size() + " not as due");
        if (!faults.isEmpty()) System.exit(1);
    }
}
