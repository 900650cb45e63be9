/**
 * Every way in which up to four copies can read at one place, asked in full on every tree and compared with the model.
 * Changes and costs are counted place by place, so that no text of so few copies can hide a wrong count.
 */
public final class EveryColumnTest {
    private static final String LETTERS = "abcd?";
    private static final Check CHECK = new Check();

    private final String text;
    private final StemmaTree asked = new StemmaTree();
    private final Model model = new Model();

    private EveryColumnTest(String text) {
        this.text = text;
    }

    public static void main(String[] args) {
        int columns = 1;
        for (int copies = 0; copies <= 4; copies++) {
            for (int column = 0; column < columns; column++) {
                new EveryColumnTest(textOf(column, copies)).askAll(copies);
            }
            columns *= LETTERS.length();
        }
        CHECK.end();
    }

    private static String textOf(int column, int copies) {
        StringBuilder text = new StringBuilder();
        int rest = column;
        for (int copy = 0; copy < copies; copy++) {
            text.append('m').append(LETTERS.charAt(rest % LETTERS.length())).append(';');
            rest /= LETTERS.length();
        }
        return text.toString();
    }

    private void askAll(int copies) {
        for (int i = 0; i < text.length(); i++) {
            same("type", text.charAt(i), 0);
        }
        same("copies", 0, 0);
        for (int tree = 0; tree < model.trees(); tree++) {
            same("chooses", tree, 0);
            askTree(tree, copies);
        }
        for (int i = 0; i < 5; i++) {
            same("rank", i, 0);
            same("best", i, 0);
            same("betters", 0, 0);
            same("mixed", 0, i);
        }
    }

    private void askTree(int tree, int copies) {
        same("changes", tree, 0);
        same("changes", tree, -1);
        same("root", tree, 0);
        for (int edge = 0; edge < 6; edge++) {
            same("directed", tree, edge);
        }
        for (int copy = 0; copy < copies; copy++) {
            same("fitting", copy, 0);
            same("shared", 0, copy);
        }
        for (int n = 0; n <= 4; n++) {
            same("sees", n, 0);
            same("unseen", 0, 0);
            same("forget", 0, 0);
        }
    }

    private void same(String name, int a, int b) {
        CHECK.due(text + " " + name + "(" + a + ", " + b + ")", Calls.call(asked, name, a, b, 0), model.call(name, a, b, 0));
    }
}
