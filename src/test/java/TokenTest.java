import java.util.ArrayList;
import java.util.List;

/**
 * Terms I with promises 4 and 5, TOKEN by TOKEN: a good text with each LINE of the document is cut ahead of each TOKEN,
 * and each TOKEN is put in another one's place; the FAULT and its place are then plain.
 */
public final class TokenTest {
    private static final String TEXT = "grid columns 3 rows 2 width 1 limit 30 wear 9 ; strap at 1 0 east width 2 ; strap at 0 0 south width 0 ; "
        + "pad at 0 0 ; load at 2 1 draws 5 group 2 ; load at 1 1 draws 7 ; pad at 2 1 ; budget 2 is 4 ; budget 0 is 9 ;";
    private static final String[] TOKENS = TEXT.split(" ");
    private static final List<Scripts.Case> CASES = new ArrayList<>();

    public static void main(String[] args) {
        for (int i = 0; i < TOKENS.length; i++) {
            cutAhead(i);
            replace(i);
            spell(i);
        }
        blanks();
        System.exit(Scripts.runCases("tokens", CASES) ? 0 : 1);
    }

    private static String ahead(int i) {
        StringBuilder text = new StringBuilder();
        for (int k = 0; k < i; k++) {
            text.append(TOKENS[k]).append("<32>");
        }
        return text.toString();
    }

    private static String behind(int i) {
        StringBuilder text = new StringBuilder();
        for (int k = i + 1; k < TOKENS.length; k++) {
            text.append("<32>").append(TOKENS[k]);
        }
        return text.toString();
    }

    private static int placeOf(int i) {
        return Scripts.bytesOf(ahead(i)).length;
    }

    private static void cutAhead(int i) {
        int lines = (int) ahead(i).chars().filter(sign -> sign == ';').count();
        boolean whole = i == 0 || TOKENS[i - 1].equals(";");
        String due = whole ? "text " + lines : "fault 1 " + placeOf(i);
        String longer = whole ? due : "fault 1 " + (placeOf(i) + 2);
        CASES.add(new Scripts.Case(whole ? 4 : 5, "the text ends ahead of TOKEN " + i, due + ": " + ahead(i) + "\n" + longer + ": " + ahead(i) + "<10><32>"));
    }

    private static void replace(int i) {
        boolean number = TOKENS[i].matches("[0-9]+");
        List<String> strangers = new ArrayList<>(List.of("zebra", "<35>", "<200>", "<9>", TOKENS[i] + "<46>", number ? "a" : "1"));
        if (!TOKENS[i].equals(";") && !TOKENS[i].equals("group")) {
            strangers.add(";");
        }
        if (!number) {
            // A number that can't stand there is no number out of its bounds.
            strangers.add("1000");
            strangers.add("99999999999999999999");
        }
        StringBuilder script = new StringBuilder();
        for (String stranger : strangers) {
            boolean behindIt = stranger.endsWith("<46>");
            int place = placeOf(i) + (behindIt ? TOKENS[i].length() : 0);
            script.append("fault 1 ").append(place).append(": ").append(ahead(i)).append(stranger).append(behind(i)).append('\n');
        }
        if (number) {
            for (String large : new String[] {"1000", "4294967297", "99999999999999999999"}) {
                script.append("fault 2 ").append(placeOf(i)).append(": ").append(ahead(i)).append(large).append(behind(i)).append('\n');
            }
        } else {
            int second = placeOf(i) + TOKENS[i].length() + 1;
            script.append("fault 1 ").append(second).append(": ").append(ahead(i)).append(TOKENS[i]).append("<32>").append(TOKENS[i]).append(behind(i));
        }
        CASES.add(new Scripts.Case(5, "another TOKEN in place of TOKEN " + i, script.toString()));
    }

    /** A word is its own with all its letters: none other, none less, none more. */
    private static void spell(int i) {
        String word = TOKENS[i];
        if (!word.matches("[a-z]+")) {
            return;
        }
        StringBuilder script = new StringBuilder();
        for (int k = 0; k < word.length(); k++) {
            char other = word.charAt(k) == 'q' ? 'r' : 'q';
            wrong(script, i, word.substring(0, k) + other + word.substring(k + 1));
        }
        wrong(script, i, word.substring(1));
        wrong(script, i, word.substring(0, word.length() - 1));
        wrong(script, i, "a" + word);
        wrong(script, i, word + "z");
        CASES.add(new Scripts.Case(5, "a letter of TOKEN " + i, script.toString()));
    }

    private static void wrong(StringBuilder script, int i, String word) {
        script.append("fault 1 ").append(placeOf(i)).append(": ").append(ahead(i)).append(word).append(behind(i)).append('\n');
    }

    private static void blanks() {
        String told = "count = 3 2 30 9 7 0 9 0 33 0\nbudget = 9 999 4 999\nnode 5 = 1 5 2 0\nnode 4 = 0 7 0 0\nstrap 2 2 = 2\nstrap 1 2 = 0";
        CASES.add(new Scripts.Case(4, "a blank between", "text 9: " + TEXT + "\n" + told));
        CASES.add(new Scripts.Case(4, "new lines between", "text 9: " + TEXT.replace(" ", "<10>") + "\n" + told));
        CASES.add(new Scripts.Case(4, "more of both, ahead and behind", "text 9: <10><32>" + TEXT.replace(" ", "<32><10><32>") + "<32><10>\n" + told));
        String tight = TEXT.replaceAll("(?<=[a-z]) (?=[0-9;])|(?<=[0-9]) (?=[a-z;])|(?<=;) ", "");
        CASES.add(new Scripts.Case(4, "none where none is needed", "text 9: " + tight + "\n" + told));
    }
}
