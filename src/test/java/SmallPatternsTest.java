import java.util.ArrayList;
import java.util.List;

/**
 * Every pattern of few steps in every text of few letters, asked everything, against a model that
 * lists all runs. Of three letters and three groups two are enough to tell them apart.
 */
public final class SmallPatternsTest extends Checks {
    private static final String STEPS = "01.e&|*?ab";
    private static final String LETTERS = "01";
    private static final int MOST_STEPS = 5;
    private static final int MOST_LETTERS = 3;

    public static void main(String[] args) {
        test("every small pattern", SmallPatternsTest::everyPattern);
        finish();
    }

    private static void everyPattern() {
        List<String> texts = everyText();
        List<String> lines = List.of("");
        for (int steps = 1; steps <= MOST_STEPS; steps++) {
            lines = oneStepMore(lines);
            for (String line : lines) {
                if (building(line).depth() == 1) {
                    inEach(texts, line);
                }
            }
        }
    }

    private static List<String> everyText() {
        List<String> texts = new ArrayList<>(List.of(""));
        // The list grows while it is gone through, until no text is short enough to go on from.
        for (int k = 0; k < texts.size(); k++) {
            for (char c : LETTERS.toCharArray()) {
                if (texts.get(k).length() < MOST_LETTERS) {
                    texts.add(texts.get(k) + c);
                }
            }
        }
        return texts;
    }

    /** Each line with each step that is accepted after it. */
    private static List<String> oneStepMore(List<String> lines) {
        List<String> longer = new ArrayList<>();
        for (String line : lines) {
            for (char step : STEPS.toCharArray()) {
                if (step(building(line), step) > 0) {
                    longer.add(line + step);
                }
            }
        }
        return longer;
    }

    private static void inEach(List<String> texts, String line) {
        for (String text : texts) {
            // One pattern that is wrong is told in full; thousands more would tell no more.
            if (allAsDue()) {
                compare(line, text);
            }
        }
    }

    private static void compare(String line, String text) {
        RegexCaptures x = with(line, text);
        Model m = Model.with(line, text);
        String where = line + " in " + text + ": ";
        for (int f = 0; f <= text.length(); f++) {
            due(where + "find(" + f + ")", x.find(f), m.find(f));
            due(where + "end(" + f + ")", x.end(f), m.end(f));
            for (int g = 0; g <= 2; g++) {
                due(where + "groupIn(" + f + ", " + g + ")", x.groupIn(f, g), m.groupIn(f, g));
            }
            for (int j = 0; j <= text.length(); j++) {
                due(where + "spans(" + f + ", " + j + ")", x.spans(f, j), m.spans(f, j));
            }
        }
        for (int g = 0; g <= 2; g++) {
            due(where + "groupInWhole(" + g + ")", x.groupInWhole(g), m.groupInWhole(g));
        }
        due(where + "count", x.count(), m.count());
        due(where + "longest", x.longest(), m.longest());
    }
}
