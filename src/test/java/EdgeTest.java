import java.util.ArrayList;
import java.util.List;

/** The boundary cases that the document names, promise by promise, each a case of its own; Scripts tells their form. */
public final class EdgeTest {
    static List<Scripts.Case> cases() {
        List<Scripts.Case> cases = new ArrayList<>();
        TapeEdges.addTo(cases);
        GridEdges.addTo(cases);
        BoundEdges.addTo(cases);
        YearEdges.addTo(cases);
        SearchEdges.addTo(cases);
        LossEdges.addTo(cases);
        ActEdges.addTo(cases);
        FullEdges.addTo(cases);
        return cases;
    }

    public static void main(String[] args) {
        System.exit(Scripts.runAll("edges", cases()) ? 0 : 1);
    }
}
