/** The calls of the face by name, so that tests can list them; arguments that a call does not take are left out. */
final class Calls {
    private Calls() {
    }

    static int call(StemmaTree x, String name, int a, int b, int c) {
        switch (name) {
            case "type": return x.type(a);
            case "clear": return x.clear();
            case "copies": return x.copies();
            case "reading": return x.reading(a, b);
            case "reads": return x.reads(a, b, c);
            case "chooses": return x.chooses(a);
            case "betters": return x.betters();
            case "undo": return x.undo();
            case "changes": return x.changes(a, b);
            case "directed": return x.directed(a, b);
            case "root": return x.root(a);
            case "rank": return x.rank(a);
            case "best": return x.best(a);
            case "fitting": return x.fitting(a, b);
            case "quarrel": return x.quarrel(a, b);
            case "shared": return x.shared(a, b);
            case "mixed": return x.mixed(a, b);
            case "sees": return x.sees(a);
            case "forget": return x.forget();
            case "unseen": return x.unseen();
            case "keep": return x.keep(a);
            case "back": return x.back(a);
            case "count": return x.count(a);
            default: throw new IllegalArgumentException(name);
        }
    }
}
