import java.util.ArrayList;
import java.util.List;

/** Counts the answers that are not as due, and says which words of the document each belongs to. */
final class Checks {
    interface Call { Object ask(); }

    private final List<String> faults = new ArrayList<>();
    private String about = "";
    private int doneAbout = 1;
    private int done = 0;

    /** What follows is about these words; each must have a check at least. */
    void about(String words) {
        if (doneAbout == 0) faults.add(about + ": nothing was checked");
        about = words;
        doneAbout = 0;
    }

    void due(String what, Object want, Object got) {
        done++;
        doneAbout++;
        if (!want.equals(got)) faults.add(about + ": " + what + " answered " + got + ", due is " + want);
    }

    void dueThrow(String what, Class<? extends RuntimeException> want, Call call) {
        Object got;
        try {
            got = call.ask();
        } catch (RuntimeException e) {
            got = e.getClass();
        }
        due(what, want, got);
    }

    void end() {
        about("");
        for (String fault : faults) System.out.println(fault);
        System.out.println(done + " checks, " + faults.size() + " not as due");
        if (!faults.isEmpty()) System.exit(1);
    }
}
