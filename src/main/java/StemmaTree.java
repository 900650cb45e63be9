/**
 * A stemma of copies: readings told by a text, trees of the copies, and how often readings change on them.
 *
 * What each call answers is promised in DOC.md. No call makes an object: all rows are made with this one and
 * used again, since nothing is ever given back of the room that all calls share.
 */
public final class StemmaTree {
    public static final int BAD = -1, STATE = -2, FULL = -3, NONE = -9;

    private static final int MOST_COPIES = 6, MOST_PLACES = 8, KINDS = 4, LOST = 4;
    private static final int MOST_TREES = 105, MOST_EDGES = 9, MOST_CHANGES = 48;
    private static final int MOST_LETTERS = 90, MOST_DONE = 10, MOST_SEEN = 6;

    /** Ends of edges: the copies' own numbers, then the knots, then the root that may part an edge. */
    private static final int FIRST_KNOT = MOST_COPIES, ROOT = MOST_COPIES + 4, MOST_NODES = ROOT + 1;

    private static final int ALL_PLACES = -1, NO_FAULT = -1, FAULT_BASE = -10, TREE_CELL = -1;

    /** Sets of readings: every reading at every place, every reading at one. */
    private static final int ANY_READINGS = -1, ANY_READING = 15;

    /** Dearer than any way through a tree at one place. */
    private static final int FAR = 1000;

    private static final int[] TREES = {1, 1, 1, 1, 3, 15, 105};

    private final Text text = new Text();
    private final Readings told = new Readings();
    private final Readings draft = new Readings();
    private final Done done = new Done();
    private final Image firstImage = new Image();
    private final Image secondImage = new Image();
    private final Row seen = new Row(MOST_SEEN);
    private final Tree grown = new Tree();
    private final Descent descent = new Descent();
    private final Row copySets = new Row(MOST_COPIES);
    private final Row treeChanges = new Row(MOST_TREES);
    private final Row treesByChanges = new Row(MOST_CHANGES + 1);
    private final Mix mix = new Mix();
    private int seenCount;
    private int chosen;
    private boolean weighed;

    public StemmaTree() {
    }

    // ---- copies

    public int type(int letter) {
        if (letter < 0 || letter > 255) {
            return BAD;
        }
        if (text.length >= MOST_LETTERS) {
            return FULL;
        }
        text.append(letter);
        return text.length;
    }

    public int clear() {
        int had = text.length;
        text.length = 0;
        return had;
    }

    public int copies() {
        int fault = text.tell(draft);
        if (fault != NO_FAULT) {
            return FAULT_BASE - fault;
        }
        told.take(draft);
        text.length = 0;
        chosen = 0;
        done.size = 0;
        seenCount = 0;
        firstImage.kept = false;
        secondImage.kept = false;
        weighed = false;
        return told.copyCount;
    }

    public int reading(int copy, int place) {
        if (!told.has(copy, place)) {
            return BAD;
        }
        int reading = told.at(copy, place);
        return reading == LOST ? NONE : reading;
    }

    // ---- what is done

    public int reads(int copy, int place, int reading) {
        if (!told.has(copy, place) || reading < 0 || reading > LOST) {
            return BAD;
        }
        int before = told.at(copy, place);
        if (before == reading) {
            return STATE;
        }
        done.note(told.cellOf(copy, place), before);
        told.put(copy, place, reading);
        weighed = false;
        return before;
    }

    public int chooses(int tree) {
        if (!isTree(tree)) {
            return BAD;
        }
        if (tree == chosen) {
            return STATE;
        }
        int before = chosen;
        becomeTree(tree);
        return before;
    }

    public int betters() {
        weighTrees();
        int better = betterTree();
        if (better == chosen) {
            return STATE;
        }
        becomeTree(better);
        return chosen;
    }

    public int undo() {
        if (done.size < 1) {
            return STATE;
        }
        done.size--;
        int cell = done.cells.at(done.size);
        int before = done.befores.at(done.size);
        if (cell == TREE_CELL) {
            chosen = before;
        } else {
            told.cells.put(cell, before);
            weighed = false;
        }
        return done.size;
    }

    // ---- trees

    public int changes(int tree, int place) {
        if (!isTree(tree) || (place != ALL_PLACES && !told.hasPlace(place))) {
            return BAD;
        }
        loadSets(place);
        return changesOf(tree);
    }

    public int directed(int tree, int edge) {
        if (!isTree(tree) || edge < 0 || edge >= edgesOf(told.copyCount)) {
            return BAD;
        }
        loadSets(ALL_PLACES);
        grown.grow(tree, told.copyCount);
        return costFrom(edge);
    }

    public int root(int tree) {
        if (!isTree(tree)) {
            return BAD;
        }
        loadSets(ALL_PLACES);
        grown.grow(tree, told.copyCount);
        int least = 0;
        int rootEdge = NONE;
        for (int edge = 0; edge < grown.edgeCount; edge++) {
            int cost = costFrom(edge);
            if (rootEdge == NONE || cost < least) {
                least = cost;
                rootEdge = edge;
            }
        }
        return rootEdge;
    }

    public int rank(int k) {
        if (k < 0) {
            return BAD;
        }
        if (k >= treesOf(told.copyCount)) {
            return NONE;
        }
        weighTrees();
        int ahead = k;
        for (int changes = 0; changes <= MOST_CHANGES; changes++) {
            int alike = treesByChanges.at(changes);
            if (ahead < alike) {
                return treeWith(changes, ahead);
            }
            ahead -= alike;
        }
        return NONE;
    }

    public int best(int what) {
        if (what < 0 || what > 3) {
            return BAD;
        }
        if (what == 2) {
            return bound();
        }
        weighTrees();
        int fewest = fewestChanges();
        if (what == 0) {
            return fewest;
        }
        if (what == 1) {
            return treesByChanges.at(fewest);
        }
        return bound() == fewest ? 1 : 0;
    }

    // ---- readings

    public int fitting(int copy, int place) {
        if (!told.has(copy, place)) {
            return BAD;
        }
        if (told.at(copy, place) != LOST) {
            return NONE;
        }
        loadSets(place);
        int now = changesOf(chosen);
        int bits = 0;
        for (int reading = 0; reading < KINDS; reading++) {
            if (changesIf(copy, place, reading) <= now) {
                bits |= 1 << reading;
            }
        }
        return bits;
    }

    public int quarrel(int place, int other) {
        if (!told.hasPlace(place) || !told.hasPlace(other) || place == other) {
            return BAD;
        }
        return inQuarrel(place, other) ? 1 : 0;
    }

    public int shared(int place, int copy) {
        if (!told.has(copy, place)) {
            return BAD;
        }
        int own = told.at(copy, place);
        if (own == LOST) {
            return 0;
        }
        int bits = 0;
        for (int other = 0; other < told.copyCount; other++) {
            if (told.at(other, place) == own) {
                bits |= 1 << other;
            }
        }
        return bits;
    }

    public int mixed(int copy, int what) {
        if (!told.hasCopy(copy) || what < 0 || what > 4) {
            return BAD;
        }
        if (told.copyCount < 2) {
            return NONE;
        }
        mix.compare(told, copy);
        if (what == 4) {
            return mix.plain(told, copy);
        }
        if (told.copyCount < 3 || told.placeCount < 2) {
            return NONE;
        }
        mix.find(told, copy);
        switch (what) {
            case 0: return mix.unlikes;
            case 1: return mix.first;
            case 2: return mix.second;
            default: return mix.goesOver;
        }
    }

    // ---- which copy

    public int sees(int n) {
        if (n < 0 || n > 6) {
            return BAD;
        }
        if (seenCount >= MOST_SEEN) {
            return FULL;
        }
        seen.put(seenCount, n);
        seenCount++;
        return seenCount;
    }

    public int forget() {
        int had = seenCount;
        seenCount = 0;
        return had;
    }

    public int unseen() {
        loadSets(0);
        grown.grow(chosen, told.copyCount);
        descent.follow(grown, 0);
        int bits = 0;
        for (int copy = 0; copy < told.copyCount; copy++) {
            if (mayBeMisread(copy)) {
                bits |= 1 << copy;
            }
        }
        return bits;
    }

    // ---- images

    public int keep(int image) {
        if (image < 0 || image > 1) {
            return BAD;
        }
        Image kept = imageOf(image);
        kept.readings.take(told);
        kept.chosen = chosen;
        kept.kept = true;
        return told.copyCount;
    }

    public int back(int image) {
        if (image < 0 || image > 1) {
            return BAD;
        }
        Image kept = imageOf(image);
        if (!kept.kept) {
            return STATE;
        }
        told.take(kept.readings);
        chosen = kept.chosen;
        done.size = 0;
        weighed = false;
        return told.copyCount;
    }

    public int count(int what) {
        switch (what) {
            case 0: return told.copyCount;
            case 1: return told.placeCount;
            case 2: return treesOf(told.copyCount);
            case 3: return chosen;
            case 4: return edgesOf(told.copyCount);
            case 5: return lostOnes();
            case 6: return quarrels();
            case 7: return seenCount;
            case 8: return text.length;
            case 9: return done.size;
            default: return BAD;
        }
    }

    // ---- what the calls are made of

    private static int treesOf(int copyCount) {
        return copyCount >= 0 && copyCount < TREES.length ? TREES[copyCount] : 1;
    }

    private static int edgesOf(int copyCount) {
        return copyCount < 3 ? Math.max(copyCount - 1, 0) : 2 * copyCount - 3;
    }

    /** In sets of readings, four bits a place: those of a place, and that of a reading there. */
    private static int bitsOf(int place) {
        return ANY_READING << (KINDS * place);
    }

    private static int bitOf(int place, int reading) {
        return 1 << (KINDS * place + reading);
    }

    private boolean isTree(int number) {
        return number >= 0 && number < treesOf(told.copyCount);
    }

    private Image imageOf(int number) {
        return number == 0 ? firstImage : secondImage;
    }

    private void becomeTree(int number) {
        done.note(TREE_CELL, chosen);
        chosen = number;
    }

    /** At the places that are not asked for, every copy counts as LOST: there nothing changes. */
    private void loadSets(int place) {
        for (int copy = 0; copy < MOST_COPIES; copy++) {
            int sets = told.setsOf(copy);
            copySets.put(copy, place == ALL_PLACES ? sets : sets | ~bitsOf(place));
        }
    }

    /** Wherever the root lies, the changes are as many: it lies on EDGE 0. */
    private int changesOf(int number) {
        grown.grow(number, told.copyCount);
        descent.follow(grown, 0);
        return descent.changesOver(copySets);
    }

    /** Asks the descent that was followed last. */
    private int changesIf(int copy, int place, int reading) {
        int sets = copySets.at(copy);
        copySets.put(copy, (sets & ~bitsOf(place)) | bitOf(place, reading));
        int changes = descent.changesOver(copySets);
        copySets.put(copy, sets);
        return changes;
    }

    /** Asks the tree that was grown last. */
    private int costFrom(int edge) {
        descent.follow(grown, edge);
        int cost = 0;
        for (int place = 0; place < told.placeCount; place++) {
            cost += descent.costAt(place, copySets);
        }
        return cost;
    }

    private void weighTrees() {
        if (weighed) {
            return;
        }
        for (int changes = 0; changes <= MOST_CHANGES; changes++) {
            treesByChanges.put(changes, 0);
        }
        loadSets(ALL_PLACES);
        int trees = treesOf(told.copyCount);
        for (int number = 0; number < trees; number++) {
            int changes = changesOf(number);
            treeChanges.put(number, changes);
            treesByChanges.put(changes, treesByChanges.at(changes) + 1);
        }
        weighed = true;
    }

    private int fewestChanges() {
        for (int changes = 0; changes <= MOST_CHANGES; changes++) {
            if (treesByChanges.at(changes) > 0) {
                return changes;
            }
        }
        return 0;
    }

    private int treeWith(int changes, int ahead) {
        int left = ahead;
        int trees = treesOf(told.copyCount);
        for (int number = 0; number < trees; number++) {
            if (treeChanges.at(number) == changes) {
                if (left == 0) {
                    return number;
                }
                left--;
            }
        }
        return NONE;
    }

    /** THE TREE itself, if none that comes of it has fewer changes. */
    private int betterTree() {
        int better = chosen;
        int fewest = treeChanges.at(chosen);
        for (int copy = 3; copy < told.copyCount; copy++) {
            int unhung = chosen - Tree.edgeOf(chosen, copy) * Tree.weightOf(copy);
            for (int edge = 0; edge < 2 * copy - 3; edge++) {
                int number = unhung + edge * Tree.weightOf(copy);
                int changes = treeChanges.at(number);
                boolean lower = better != chosen && changes == fewest && number < better;
                if (changes < fewest || lower) {
                    better = number;
                    fewest = changes;
                }
            }
        }
        return better;
    }

    private int bound() {
        int sum = 0;
        for (int place = 0; place < told.placeCount; place++) {
            int kinds = 0;
            for (int copy = 0; copy < told.copyCount; copy++) {
                int reading = told.at(copy, place);
                if (reading != LOST) {
                    kinds |= 1 << reading;
                }
            }
            sum += Math.max(Integer.bitCount(kinds) - 1, 0);
        }
        return sum;
    }

    private boolean inQuarrel(int place, int other) {
        int ways = 0;
        for (int copy = 0; copy < told.copyCount; copy++) {
            int here = told.at(copy, place);
            int there = told.at(copy, other);
            if (here != LOST && there != LOST) {
                ways |= 1 << (KINDS * here + there);
            }
        }
        for (int one = 0; one < KINDS; one++) {
            for (int two = one + 1; two < KINDS; two++) {
                int withBoth = (ways >>> (KINDS * one)) & (ways >>> (KINDS * two)) & ANY_READING;
                if (Integer.bitCount(withBoth) >= 2) {
                    return true;
                }
            }
        }
        return false;
    }

    private int quarrels() {
        int twos = 0;
        for (int place = 0; place < told.placeCount; place++) {
            for (int other = place + 1; other < told.placeCount; other++) {
                if (inQuarrel(place, other)) {
                    twos++;
                }
            }
        }
        return twos;
    }

    private int lostOnes() {
        int lost = 0;
        for (int copy = 0; copy < told.copyCount; copy++) {
            for (int place = 0; place < told.placeCount; place++) {
                if (told.at(copy, place) == LOST) {
                    lost++;
                }
            }
        }
        return lost;
    }

    /** One other reading must account for all that was seen. */
    private boolean mayBeMisread(int copy) {
        int own = told.at(copy, 0);
        if (own == LOST) {
            return false;
        }
        for (int reading = 0; reading < KINDS; reading++) {
            if (reading != own && allSeenIs(changesIf(copy, 0, reading))) {
                return true;
            }
        }
        return false;
    }

    private boolean allSeenIs(int changes) {
        for (int i = 0; i < seenCount; i++) {
            if (seen.at(i) != changes) {
                return false;
            }
        }
        return true;
    }

    /** Numbers in a row. But for TREES no array is used outside of it, so that each index is tested here. */
    private static final class Row {
        private final int[] cells;

        Row(int length) {
            cells = new int[Math.max(length, 0)];
        }

        int at(int index) {
            return index >= 0 && index < cells.length ? cells[index] : 0;
        }

        void put(int index, int value) {
            if (index >= 0 && index < cells.length) {
                cells[index] = value;
            }
        }

        void fillFrom(Row other) {
            for (int i = 0; i < cells.length; i++) {
                put(i, other.at(i));
            }
        }
    }

    /** What each copy has at each place. */
    private static final class Readings {
        private final Row cells = new Row(MOST_COPIES * MOST_PLACES);
        private int copyCount;
        private int placeCount;

        boolean hasCopy(int copy) {
            return copy >= 0 && copy < copyCount;
        }

        boolean hasPlace(int place) {
            return place >= 0 && place < placeCount;
        }

        boolean has(int copy, int place) {
            return hasCopy(copy) && hasPlace(place);
        }

        int cellOf(int copy, int place) {
            return copy * MOST_PLACES + place;
        }

        int at(int copy, int place) {
            return has(copy, place) ? cells.at(cellOf(copy, place)) : LOST;
        }

        void put(int copy, int place, int reading) {
            cells.put(cellOf(copy, place), reading);
        }

        void take(Readings other) {
            cells.fillFrom(other.cells);
            copyCount = other.copyCount;
            placeCount = other.placeCount;
        }

        /** Of each place, in four bits, the readings that the copy may have there. */
        int setsOf(int copy) {
            int sets = ANY_READINGS;
            for (int place = 0; place < placeCount; place++) {
                int reading = at(copy, place);
                if (reading != LOST) {
                    sets &= ~bitsOf(place) | bitOf(place, reading);
                }
            }
            return sets;
        }
    }

    /** THE TEXT, and what it tells. */
    private static final class Text {
        private final Row letters = new Row(MOST_LETTERS);
        private int length;

        void append(int letter) {
            letters.put(length, letter);
            length++;
        }

        /** Fills the draft: the FAULT, or NO_FAULT. */
        int tell(Readings draft) {
            draft.copyCount = 0;
            draft.placeCount = 0;
            boolean inItem = false;
            int had = 0;
            for (int i = 0; i < length; i++) {
                int letter = letters.at(i);
                if (letter == ' ') {
                    continue;
                }
                if (!inItem) {
                    if (letter != 'm' || draft.copyCount >= MOST_COPIES) {
                        return i;
                    }
                    inItem = true;
                    had = 0;
                } else if (letter == ';') {
                    if (!endItem(draft, had)) {
                        return i;
                    }
                    inItem = false;
                } else {
                    int reading = readingFor(letter);
                    if (reading < 0 || had >= mostReadings(draft)) {
                        return i;
                    }
                    draft.put(draft.copyCount, had, reading);
                    had++;
                }
            }
            return inItem ? length : NO_FAULT;
        }

        private static int mostReadings(Readings draft) {
            return draft.copyCount == 0 ? MOST_PLACES : draft.placeCount;
        }

        private static boolean endItem(Readings draft, int had) {
            if (had < 1 || (draft.copyCount > 0 && had < draft.placeCount)) {
                return false;
            }
            draft.placeCount = had;
            draft.copyCount++;
            return true;
        }

        private static int readingFor(int letter) {
            if (letter == '?') {
                return LOST;
            }
            return letter >= 'a' && letter <= 'd' ? letter - 'a' : -1;
        }
    }

    /** What may be undone: a cell of the readings, or TREE_CELL, and what it was before. */
    private static final class Done {
        private final Row cells = new Row(MOST_DONE);
        private final Row befores = new Row(MOST_DONE);
        private int size;

        void note(int cell, int before) {
            if (size >= MOST_DONE) {
                loseOldest();
            }
            cells.put(size, cell);
            befores.put(size, before);
            size++;
        }

        private void loseOldest() {
            for (int i = 1; i < MOST_DONE; i++) {
                cells.put(i - 1, cells.at(i));
                befores.put(i - 1, befores.at(i));
            }
            size = MOST_DONE - 1;
        }
    }

    /** Readings and THE TREE as they once were. */
    private static final class Image {
        private final Readings readings = new Readings();
        private int chosen;
        private boolean kept;
    }

    /** A tree without a root: the two ends of each edge. */
    private static final class Tree {
        private final Row firstEnds = new Row(MOST_EDGES);
        private final Row secondEnds = new Row(MOST_EDGES);
        private int edgeCount;

        static int weightOf(int copy) {
            return copy == 3 ? 1 : copy == 4 ? 3 : 15;
        }

        static int edgeOf(int number, int copy) {
            return copy == 3 ? number % 3 : copy == 4 ? number / 3 % 5 : number / 15;
        }

        void grow(int number, int copyCount) {
            edgeCount = 0;
            if (copyCount == 2) {
                addEdge(0, 1);
            }
            if (copyCount < 3) {
                return;
            }
            for (int copy = 0; copy < 3; copy++) {
                addEdge(copy, FIRST_KNOT);
            }
            for (int copy = 3; copy < copyCount; copy++) {
                hang(copy, edgeOf(number, copy));
            }
        }

        private void hang(int copy, int edge) {
            int knot = FIRST_KNOT + copy - 2;
            int end = secondEnds.at(edge);
            secondEnds.put(edge, knot);
            addEdge(knot, end);
            addEdge(knot, copy);
        }

        private void addEdge(int first, int second) {
            firstEnds.put(edgeCount, first);
            secondEnds.put(edgeCount, second);
            edgeCount++;
        }
    }

    /** A tree from a root on one edge down: each node stands ahead of the two below it. */
    private static final class Descent {
        private final Row nodes = new Row(MOST_NODES);
        private final Row edgesAbove = new Row(MOST_NODES);
        private final Row belows = new Row(MOST_NODES);
        private final Row sets = new Row(MOST_NODES);
        private final Row costs = new Row(MOST_NODES * KINDS);
        private int size;

        void follow(Tree tree, int edge) {
            size = 0;
            if (edge < 0 || edge >= tree.edgeCount) {
                return;
            }
            append(ROOT, edge);
            belows.put(0, size);
            append(tree.firstEnds.at(edge), edge);
            append(tree.secondEnds.at(edge), edge);
            for (int i = 1; i < size && i < MOST_NODES; i++) {
                if (nodes.at(i) >= FIRST_KNOT) {
                    belows.put(i, size);
                    appendBelow(tree, nodes.at(i), edgesAbove.at(i));
                }
            }
        }

        private void appendBelow(Tree tree, int knot, int edgeAbove) {
            for (int edge = 0; edge < tree.edgeCount; edge++) {
                if (edge == edgeAbove) {
                    continue;
                }
                if (tree.firstEnds.at(edge) == knot) {
                    append(tree.secondEnds.at(edge), edge);
                } else if (tree.secondEnds.at(edge) == knot) {
                    append(tree.firstEnds.at(edge), edge);
                }
            }
        }

        private void append(int node, int edgeAbove) {
            nodes.put(size, node);
            edgesAbove.put(size, edgeAbove);
            size++;
        }

        /**
         * All places at once. A node has what both below it may have; where that is nothing, one change is
         * due, and it has what either may have.
         */
        int changesOver(Row copySets) {
            int changes = 0;
            for (int i = size - 1; i >= 0; i--) {
                int node = nodes.at(i);
                if (node < FIRST_KNOT) {
                    sets.put(i, copySets.at(node));
                    continue;
                }
                int left = sets.at(belows.at(i));
                int right = sets.at(belows.at(i) + 1);
                int both = left & right;
                int parted = emptyPlaces(both);
                changes += Integer.bitCount(parted);
                sets.put(i, both | ((left | right) & (parted * ANY_READING)));
            }
            return changes;
        }

        /** The lowest bit of each four that are all 0. */
        private static int emptyPlaces(int sets) {
            int twos = sets | (sets >>> 1);
            int fours = twos | (twos >>> 2);
            return ~fours & 0x11111111;
        }

        /** The least cost at a place, by the least cost of each reading at each node. */
        int costAt(int place, Row copySets) {
            for (int i = size - 1; i >= 0; i--) {
                for (int reading = 0; reading < KINDS; reading++) {
                    costs.put(i * KINDS + reading, costOf(i, reading, place, copySets));
                }
            }
            int least = FAR;
            for (int reading = 0; reading < KINDS; reading++) {
                least = Math.min(least, costs.at(reading));
            }
            return least;
        }

        private int costOf(int i, int reading, int place, Row copySets) {
            int node = nodes.at(i);
            if (node < FIRST_KNOT) {
                return (copySets.at(node) & bitOf(place, reading)) != 0 ? 0 : FAR;
            }
            return costDown(belows.at(i), reading) + costDown(belows.at(i) + 1, reading);
        }

        private int costDown(int i, int from) {
            int least = FAR;
            for (int to = 0; to < KINDS; to++) {
                int step = to == from ? 0 : to > from ? 1 : 2;
                least = Math.min(least, costs.at(i * KINDS + to) + step);
            }
            return least;
        }
    }

    /** Of which two others a copy may be mixed; a bit is a place where the copy is unlike one. */
    private static final class Mix {
        private final Row unlikePlaces = new Row(MOST_COPIES);
        private int unlikes, first, second, goesOver;

        void compare(Readings told, int copy) {
            for (int other = 0; other < told.copyCount; other++) {
                int bits = 0;
                for (int place = 0; place < told.placeCount; place++) {
                    int here = told.at(copy, place);
                    int there = told.at(other, place);
                    if (here != LOST && there != LOST && here != there) {
                        bits |= 1 << place;
                    }
                }
                unlikePlaces.put(other, bits);
            }
        }

        int plain(Readings told, int copy) {
            int fewest = MOST_PLACES;
            for (int other = 0; other < told.copyCount; other++) {
                if (other != copy) {
                    fewest = Math.min(fewest, Integer.bitCount(unlikePlaces.at(other)));
                }
            }
            return fewest;
        }

        void find(Readings told, int copy) {
            unlikes = MOST_PLACES + 1;
            for (int p = 0; p < told.copyCount; p++) {
                for (int q = 0; q < told.copyCount; q++) {
                    if (p != copy && q != copy && p != q) {
                        tryTwo(p, q, told.placeCount);
                    }
                }
            }
        }

        private void tryTwo(int p, int q, int placeCount) {
            for (int c = 1; c < placeCount; c++) {
                int ahead = (1 << c) - 1;
                int by = Integer.bitCount(unlikePlaces.at(p) & ahead)
                        + Integer.bitCount(unlikePlaces.at(q) & ~ahead);
                if (by < unlikes) {
                    unlikes = by;
                    first = p;
                    second = q;
                    goesOver = c;
                }
            }
        }
    }
}
