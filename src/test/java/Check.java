/** What the tests share: answers that are due, and texts typed letter by letter. */
final class Check {
    private int asked;
    private int wrong;

    void due(String call, long got, long want) {
        asked++;
        if (got != want) {
            wrong++;
            System.out.println(call + " answered " + got + ", due is " + want);
        }
    }

    void isTrue(String what, boolean holds) {
        due(what, holds ? 1 : 0, 1);
    }

    int wrong() {
        return wrong;
    }

    void end() {
        System.out.println(asked + " asked, " + wrong + " not as due");
        if (wrong != 0) {
            System.exit(1);
        }
    }

    static void type(StemmaTree x, String text) {
        for (int i = 0; i < text.length(); i++) {
            x.type(text.charAt(i));
        }
    }

    static StemmaTree told(String text) {
        StemmaTree x = new StemmaTree();
        type(x, text);
        x.copies();
        return x;
    }

    static int fault(String text) {
        StemmaTree x = new StemmaTree();
        type(x, text);
        return x.copies();
    }
}
