/** Lists of answers, so that two objects can be compared; each list takes at most some 150 calls. */
final class Asked {
    private Asked() {
    }

    static int[] counts(StemmaTree x) {
        int[] answers = new int[10];
        for (int what = 0; what < 10; what++) {
            answers[what] = x.count(what);
        }
        return answers;
    }

    static int[] readings(StemmaTree x) {
        return readingsOf(x, 0);
    }

    static int[] readingsOf(StemmaTree x, int answer) {
        int[] answers = new int[50];
        answers[48] = answer;
        answers[49] = x.count(3);
        for (int i = 0; i < 48; i++) {
            answers[i] = x.reading(i / 8, i % 8);
        }
        return answers;
    }

    static int[] questions(StemmaTree x) {
        int[] answers = new int[160];
        int n = 0;
        answers[n++] = x.unseen();
        for (int k = 0; k < 105; k++) {
            answers[n++] = x.rank(k);
        }
        for (int i = 0; i < 6; i++) {
            answers[n++] = x.best(i);
            answers[n++] = x.mixed(i, 0);
            answers[n++] = x.shared(0, i);
            answers[n++] = x.fitting(i, i);
            answers[n++] = x.directed(x.count(3), i);
            answers[n++] = x.changes(x.count(3), i);
        }
        answers[n] = x.root(x.count(3));
        return answers;
    }
}
