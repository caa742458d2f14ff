import java.util.ArrayList;
import java.util.List;

/** Boundary cases of some promises. */
abstract class Edges {
    private final List<Scripts.Case> cases = new ArrayList<>();

    abstract void addAll();

    final void edge(int promise, String name, String script) {
        cases.add(new Scripts.Case(promise, name, script));
    }

    final List<Scripts.Case> cases() {
        cases.clear();
        addAll();
        return cases;
    }
}
