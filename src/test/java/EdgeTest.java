import java.util.ArrayList;
import java.util.List;

/** The boundary cases that the document names, promise by promise, each a case of its own; Scripts tells their form. */
public final class EdgeTest {
    private static final List<Edges> ALL = List.of(new TapeEdges(), new GridEdges(), new BoundEdges(), new YearEdges(),
        new SearchEdges(), new LossEdges(), new ActEdges(), new FullEdges());

    static List<Scripts.Case> cases() {
        List<Scripts.Case> cases = new ArrayList<>();
        for (Edges edges : ALL) {
            cases.addAll(edges.cases());
        }
        return cases;
    }

    public static void main(String[] args) {
        boolean good = Scripts.runAll("edges", cases());
        System.exit(apart() && good ? 0 : 1);
    }

    /** Promise 1: what one object has, another one has not, neither ahead of it nor behind it. */
    private static boolean apart() {
        SupplyGrid one = new SupplyGrid();
        Scripts.tell(one, "LINE");
        one.lay(0, 1);
        one.image(0);
        one.feed(1, 2, 3, 4, 5);
        SupplyGrid other = new SupplyGrid();
        boolean good = other.holds() == -2 && other.count(7) == 0 && other.back(0) == -6 && other.fault(1) == -1;
        Scripts.tell(other, "CROSS");
        other.feeds(0);
        other.image(1);
        good &= one.count(4) == 2 && one.count(5) == 1 && one.count(7) == 20 && one.count(8) == 1 && one.strap(0, 2) == 1;
        good &= one.back(1) == -6 && one.undo() == 0 && one.drop(2, 0) == 6 && other.drop(8, 0) > 0 && other.count(8) == 17;
        if (!good) {
            System.out.println("promise 1: two objects have something together");
        }
        return good;
    }
}
