import java.lang.reflect.Method;
import java.lang.reflect.Modifier;
import java.util.ArrayList;
import java.util.List;
import java.util.Set;

/** A call that only asks changes nothing that a later call can tell: each one, in several states, with good and bad arguments. */
public final class QuietTest {
    private static final Set<String> CHANGE = Set.of("feed", "end", "grid", "lay", "feeds", "draw", "year", "image", "back", "undo", "anew");
    private static final String[] STATES = {
        "put: grid columns 2 rows 1\n",
        "tell GROUPS\nimage 0\nlay 0 2\ndraw 3 20\nyear\nimage 2\nfeeds 3\nput: grid columns 2 rows 1 width 1 limit 3 wear 9;\n",
        "tell CROSS\ndraw 0 90\nlay 3 0\nyear\nfeeds 8\nfault 2 13: grid columns 0\n",
    };
    private static final int[][] ARGUMENTS = {{0, 0, 0}, {1, 1, 1}, {2, 1, 0}, {5, 8, 1}, {-1, -1, -1}};

    public static void main(String[] args) {
        List<Scripts.Case> cases = new ArrayList<>();
        for (Method method : SupplyGrid.class.getDeclaredMethods()) {
            if (Modifier.isPublic(method.getModifiers()) && !CHANGE.contains(method.getName())) {
                for (String state : STATES) {
                    cases.add(new Scripts.Case(0, method.getName() + " asks alone", state + asked(method)));
                }
            }
        }
        System.exit(Scripts.runCases("quiet", cases) ? 0 : 1);
    }

    private static String asked(Method method) {
        StringBuilder script = new StringBuilder();
        for (int[] arguments : ARGUMENTS) {
            script.append("kept ").append(method.getName());
            for (int i = 0; i < method.getParameterCount(); i++) {
                script.append(' ').append(arguments[i]);
            }
            script.append('\n');
        }
        return script.toString();
    }
}
