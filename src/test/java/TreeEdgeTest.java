/** The document's sentences on trees and on what is done that name an edge: one test for each, the sentence ahead. */
public final class TreeEdgeTest {
    private static final int BAD = -1, STATE = -2, NONE = -9;
    private static final int[] TREES = {1, 1, 1, 1, 3, 15, 105}, EDGES = {0, 0, 1, 3, 5, 7, 9};
    private static final Check CHECK = new Check();

    public static void main(String[] args) {
        treesAreNumberedFrom0();
        edgesAreNumberedFrom0();
        copy3IsHungOnEdges0To2();
        copy4IsHungOnEdges0To4();
        copy5IsHungOnEdges0To6();
        whereEdgesLead();
        noTreeButOneBelowThreeCopies();
        edge0BetweenTwoCopies();
        lostOnesAreAsOneLikes();
        changesAtOnePlaceOrAll();
        boundWithNothingTold();
        boundThatIsTheFewest();
        directedCosts();
        directedOfFourUnlikeOnes();
        directedAtEightPlaces();
        bothHalvesOfTheRootsEdge();
        rootOfSeveralTheLowest();
        rootWithoutAnEdge();
        readAndLost();
        theTreeIs0AtFirst();
        betteredOfSeveralTheLowest();
        betteredOntoEachEdge();
        betteredByOneCopyAlone();
        betteredOnlyIfFewer();
        undoneKnowsTen();
        undoneLosesTheOldestOfEachKind();
        undoneLeavesRefusedOnesOut();
        undoneSaysHowManyMore();
        rankOfLikeOnesByNumbers();
        rankBelow0AndBehindTheLast();
        bestWhats();
        asThingsAreNow();
        CHECK.end();
    }

    private static void due(String call, long got, long want) {
        CHECK.due(call, got, want);
    }

    private static StemmaTree alike(int copies) {
        return Check.told("ma;".repeat(copies));
    }

    /** At one place the copies of 'odd' (bits) have b, all others a. */
    private static StemmaTree parted(int copies, int odd) {
        StringBuilder text = new StringBuilder();
        for (int copy = 0; copy < copies; copy++) {
            text.append((odd >> copy & 1) == 1 ? "mb;" : "ma;");
        }
        return Check.told(text.toString());
    }

    /** "TREES: 1, 1, 1, 1, 3, 15, 105 for 0 to 6 COPIES" and BAD for any other number */
    private static void treesAreNumberedFrom0() {
        for (int copies = 0; copies <= 6; copies++) {
            StemmaTree x = alike(copies);
            int trees = TREES[copies];
            due("trees of " + copies, x.count(2), trees);
            for (int wrong : new int[] {-1, trees, trees + 1, Integer.MIN_VALUE, Integer.MAX_VALUE}) {
                due("chooses " + wrong + " of " + copies, x.chooses(wrong), BAD);
                due("changes " + wrong + " of " + copies, x.changes(wrong, -1), BAD);
                due("directed " + wrong + " of " + copies, x.directed(wrong, 0), BAD);
                due("root " + wrong + " of " + copies, x.root(wrong), BAD);
            }
            due("changes of the last of " + copies, x.changes(trees - 1, -1), 0);
            due("root of the last of " + copies, x.root(trees - 1), copies < 2 ? NONE : 0);
            due("chooses the last of " + copies, x.chooses(trees - 1), trees == 1 ? STATE : 0);
            due("THE TREE of " + copies, x.count(3), trees - 1);
        }
    }

    /** "EDGES 0, 1, 2 lead from COPIES 0, 1, 2 to one KNOT", two more for each copy hung; BAD for any other number */
    private static void edgesAreNumberedFrom0() {
        for (int copies = 0; copies <= 6; copies++) {
            StemmaTree x = alike(copies);
            due("edges of " + copies, x.count(4), EDGES[copies]);
            for (int edge = 0; edge < EDGES[copies]; edge++) {
                due("directed " + edge + " of " + copies, x.directed(TREES[copies] - 1, edge), 0);
            }
            for (int wrong : new int[] {-1, EDGES[copies], EDGES[copies] + 1, Integer.MIN_VALUE, Integer.MAX_VALUE}) {
                due("directed " + wrong + " of " + copies, x.directed(0, wrong), BAD);
            }
        }
    }

    /** "COPY k (3 on) is hung on an EDGE e that there is by then (0 .. 2 k less 4)", k = 3 */
    private static void copy3IsHungOnEdges0To2() {
        for (int mate = 0; mate < 3; mate++) {
            StemmaTree x = parted(4, 1 << mate | 1 << 3);
            for (int tree = 0; tree < 3; tree++) {
                due("3 by " + mate + " on tree " + tree, x.changes(tree, 0), tree == mate ? 1 : 2);
            }
        }
    }

    /** The same, k = 4; "3 times that of COPY 4": two odd ones need one change where the one hangs on the other's edge */
    private static void copy4IsHungOnEdges0To4() {
        int[] ownEdges = {0, 1, 2, 4};
        for (int mate = 0; mate < 4; mate++) {
            StemmaTree x = parted(5, 1 << mate | 1 << 4);
            for (int tree = 0; tree < 15; tree++) {
                due("4 by " + mate + " on tree " + tree, x.changes(tree, 0), tree / 3 == ownEdges[mate] ? 1 : 2);
            }
        }
    }

    /** The same, k = 5; "15 times that of COPY 5"; copy 3's own edge is a new one where copy 4 has parted EDGE 4 */
    private static void copy5IsHungOnEdges0To6() {
        for (int mate = 0; mate < 5; mate++) {
            StemmaTree x = parted(6, 1 << mate | 1 << 5);
            for (int tree = 0; tree < 105; tree++) {
                int own = mate < 3 ? mate : mate == 4 ? 6 : tree / 3 % 5 == 4 ? 5 : 4;
                due("5 by " + mate + " on tree " + tree, x.changes(tree, 0), tree / 15 == own ? 1 : 2);
            }
        }
    }

    /** "e leads from its first end to the new KNOT, the next new EDGE from the new KNOT to its second end" */
    private static void whereEdgesLead() {
        for (int e = 0; e < 3; e++) {
            int pair = 1 << e | 1 << 3;
            due("4 on 3, the pair", parted(5, pair).changes(e + 9, 0), 1);
            due("4 on 3, with 4", parted(5, pair | 1 << 4).changes(e + 9, 0), 1);
            due("5 on 3, nearer to the pair", parted(6, pair | 1 << 5).changes(e + 9 + 45, 0), 1);
            due("5 on 3, not behind 4", parted(6, pair | 1 << 4).changes(e + 9 + 45, 0), 2);
            due("5 on 5, behind 4", parted(6, pair | 1 << 4).changes(e + 9 + 75, 0), 1);
            due("5 on 5, not by the pair", parted(6, pair | 1 << 5).changes(e + 9 + 75, 0), 2);
        }
        due("4 on 4, 5 on 4: 3 and 4 stay together", parted(6, 24).changes(12 + 60, 0), 1);
        due("4 on 4, 5 on 5: 3 and 5 do", parted(6, 24).changes(12 + 75, 0), 2);
    }

    /** "With fewer than three COPIES there is just TREE 0 .., or none" */
    private static void noTreeButOneBelowThreeCopies() {
        StemmaTree none = new StemmaTree();
        StemmaTree one = Check.told("mab?;");
        for (StemmaTree x : new StemmaTree[] {none, one}) {
            due("changes", x.changes(0, -1), 0);
            due("no edge", x.directed(0, 0), BAD);
            due("no root", x.root(0), NONE);
            due("rank", x.rank(0), 0);
            due("no more", x.rank(1), NONE);
            due("fewest", x.best(0), 0);
            due("one tree", x.best(1), 1);
            due("bound", x.best(2), 0);
            due("proved", x.best(3), 1);
            due("it is that", x.chooses(0), STATE);
            due("no better one", x.betters(), STATE);
        }
        due("no place", none.changes(0, 0), BAD);
        due("a place", one.changes(0, 2), 0);
        due("no further place", one.changes(0, 3), BAD);
    }

    /** "EDGE 0 from COPY 0 to COPY 1": unlike ends change once, and cost 1, since the root may have the lower one */
    private static void edge0BetweenTwoCopies() {
        for (int r = 0; r < 4; r++) {
            for (int s = 0; s < 4; s++) {
                StemmaTree x = Check.told("m" + (char) ('a' + r) + ";m" + (char) ('a' + s) + ";");
                due("changes of " + r + ", " + s, x.changes(0, 0), r == s ? 0 : 1);
                due("directed of " + r + ", " + s, x.directed(0, 0), r == s ? 0 : 1);
            }
        }
        due("no edge 1", Check.told("ma;mb;").directed(0, 1), BAD);
    }

    /** "KNOTS and LOST ones have READINGS as one likes" */
    private static void lostOnesAreAsOneLikes() {
        StemmaTree all = Check.told("m?;m?;m?;m?;m?;m?;");
        for (int tree = 0; tree < 105; tree++) {
            due("all lost, tree " + tree, all.changes(tree, 0), 0);
        }
        due("one told", Check.told("m?;md;m?;m?;").changes(2, -1), 0);
        due("one told, directed", Check.told("m?;md;m?;m?;").directed(2, 4), 0);
        due("two told, far apart", Check.told("ma;m?;m?;m?;m?;md;").changes(104, -1), 1);
        due("two told, directed from the higher one", Check.told("md;m?;ma;").directed(0, 0), 1);
        due("two told, directed from the lost one", Check.told("md;m?;ma;").directed(0, 1), 1);
    }

    /** "CHANGES of a TREE (place = -1), at a PLACE. BAD." */
    private static void changesAtOnePlaceOrAll() {
        StemmaTree x = Check.told("maabbccdd;mabbaccdd;maabbcdcd;mabbacddc;");
        int sum = 0;
        for (int place = 0; place < 8; place++) {
            sum += x.changes(0, place);
        }
        due("all together", x.changes(0, -1), sum);
        due("like ones change nothing", x.changes(0, 0), 0);
        due("a b a b", x.changes(0, 1), 2);
        due("a b a b, parted well", x.changes(1, 1), 1);
        due("c c d d", x.changes(2, 5), 0 + x.changes(2, 6));
        for (int wrong : new int[] {-2, -9, 8, 9, Integer.MIN_VALUE, Integer.MAX_VALUE}) {
            due("place " + wrong, x.changes(0, wrong), BAD);
        }
    }

    /** "BOUND: of each PLACE the unlike READINGS that are told there, less 1 (0, if none is), together." */
    private static void boundWithNothingTold() {
        due("none told", Check.told("m?;m?;m?;").best(2), 0);
        due("one told", Check.told("m?;mc;m?;").best(2), 0);
        due("one told by two", Check.told("m?;mc;mc;").best(2), 0);
        due("none at one place, three at the other", Check.told("m?a;m?b;m?c;").best(2), 2);
        due("none at seven places", Check.told("m???????a;m???????d;").best(2), 1);
        due("all four", Check.told("ma;mb;mc;md;ma;m?;").best(2), 3);
        due("eight places, all four",
                Check.told("maaaaaaaa;mbbbbbbbb;mcccccccc;mdddddddd;m????????;maaaaaaaa;").best(2), 24);
    }

    /** "whether BOUND is the fewest (3; 1, 0)" */
    private static void boundThatIsTheFewest() {
        due("proved at 0", Check.told("ma;ma;").best(3), 1);
        due("proved", Check.told("maa;mbb;maa;mbb;").best(3), 1);
        due("one above the bound", Check.told("maa;mab;mba;mbb;").best(3), 0);
    }

    /** "costs 0 for like ends, 1 from a lower READING to a higher one, 2 from a higher one to a lower one" */
    private static void directedCosts() {
        due("like ends", Check.told("md;md;md;").directed(0, 1), 0);
        due("up by one or by three is 1", Check.told("ma;md;md;").directed(0, 0), 1);
        due("root on b's edge: a is below b", Check.told("ma;mb;mb;").directed(0, 1), 2);
        due("root on a's edge", Check.told("mb;mb;ma;").directed(0, 2), 1);
        due("all unlike", Check.told("ma;mb;mc;").directed(0, 0), 2);
        due("all unlike, root by c", Check.told("ma;mb;mc;").directed(0, 2), 2);
        due("down, or up twice", Check.told("mb;mb;mb;mb;ma;").directed(0, 0), 2);
        due("down, since up would be four times", Check.told("mb;mb;mb;mb;ma;").directed(0, 1), 2);
        due("places together", Check.told("mab;mbb;mba;").directed(0, 0), 3);
        due("no places told", Check.told("m??;m??;m??;").directed(0, 0), 0);
    }

    /** The same: with the lowest one at the root and all knots, each other one is reached by one step up, wherever it is */
    private static void directedOfFourUnlikeOnes() {
        for (int code = 0; code < 256; code++) {
            int[] r = {code & 3, code >> 2 & 3, code >> 4 & 3, code >> 6};
            if ((1 << r[0] | 1 << r[1] | 1 << r[2] | 1 << r[3]) != 15) {
                continue;
            }
            StringBuilder text = new StringBuilder();
            for (int reading : r) {
                text.append('m').append((char) ('a' + reading)).append(';');
            }
            StemmaTree x = Check.told(text.toString());
            for (int i = 0; i < 15; i++) {
                due("directed(" + i / 5 + ", " + i % 5 + ") of " + text, x.directed(i / 5, i % 5), 3);
            }
        }
    }

    /** "the least cost, all PLACES together": each of eight is counted once, the first and the last, too */
    private static void directedAtEightPlaces() {
        for (int odd = 0; odd < 8; odd++) {
            String unlike = "m" + "a".repeat(odd) + "b" + "a".repeat(7 - odd) + ";";
            StemmaTree x = Check.told("maaaaaaaa;maaaaaaaa;" + unlike);
            due("root on the odd one's edge, " + odd, x.directed(0, 2), 1);
            due("root elsewhere, " + odd, x.directed(0, 0), 1);
            due("changes, " + odd, x.changes(0, -1), 1);
        }
        StemmaTree all = Check.told("maaaaaaaa;mbbbbbbbb;mcccccccc;");
        for (int edge = 0; edge < 3; edge++) {
            due("all eight unlike, " + edge, all.directed(0, edge), 16);
        }
    }

    /** "an EDGE (both halves of that with THE ROOT, too)" */
    private static void bothHalvesOfTheRootsEdge() {
        due("either half alone goes up", Check.told("md;ma;").directed(0, 0), 1);
        due("the other way round", Check.told("ma;md;").directed(0, 0), 1);
        due("one half of an edge between knots", Check.told("mb;mc;mc;mb;").directed(0, 3), 1);
        due("that edge, the lower ones at its other end", Check.told("mc;mb;mb;mc;").directed(0, 3), 1);
        due("the root elsewhere among the higher ones", Check.told("mc;mb;mb;mc;").directed(0, 0), 2);
        due("one half of the last edge", Check.told("mb;mb;mb;mb;mb;ma;").directed(104, 8), 1);
    }

    /** "ROOT of a TREE: the EDGE by which that is least, of several the lowest." */
    private static void rootOfSeveralTheLowest() {
        due("all alike", alike(6).root(104), 0);
        due("all lost", Check.told("m?;m?;m?;").root(0), 0);
        due("edge 1 alone", Check.told("mb;ma;mb;").root(0), 1);
        due("edge 2 alone", Check.told("mb;mb;ma;").root(0), 2);
        due("edges 0 and 1 of three", Check.told("ma;ma;mb;").root(0), 0);
    }

    /** "NONE: it has no EDGE. BAD." */
    private static void rootWithoutAnEdge() {
        due("no copies", new StemmaTree().root(0), NONE);
        due("one copy", Check.told("mabcd;").root(0), NONE);
        due("two copies", Check.told("ma;mb;").root(0), 0);
        due("no tree, no edge", new StemmaTree().root(1), BAD);
        due("no tree, no edge, below", Check.told("ma;").root(-1), BAD);
    }

    /** "READ (0 to 3; 4: LOST): what it was (0 to 4). BAD; STATE: it is that." */
    private static void readAndLost() {
        StemmaTree x = Check.told("mab?;mcd?;");
        for (int reading = 0; reading <= 4; reading++) {
            int was = reading == 0 ? 4 : reading - 1;
            due("reads " + reading, x.reads(1, 2, reading), was);
            due("it is " + reading, x.reads(1, 2, reading), STATE);
            due("reading " + reading, x.reading(1, 2), reading == 4 ? NONE : reading);
        }
        due("five are known", x.count(9), 5);
        for (int wrong : new int[] {-1, 5, NONE, Integer.MIN_VALUE, Integer.MAX_VALUE}) {
            due("no reading " + wrong, x.reads(0, 0, wrong), BAD);
            due("no copy " + wrong, x.reads(wrong, 0, 0), BAD);
            due("no place " + wrong, x.reads(0, wrong, 0), BAD);
        }
        due("copy behind the last", x.reads(2, 0, 0), BAD);
        due("place behind the last", x.reads(0, 3, 0), BAD);
        due("place that would be the next copy's", x.reads(0, 8, 0), BAD);
        due("place that would be the copy's ahead", x.reads(1, -8, 2), BAD);
        due("refused ones are not known", x.count(9), 5);
    }

    /** "CHOSEN: THE TREE (0 at first) is another one." "STATE: it is that." */
    private static void theTreeIs0AtFirst() {
        for (int copies = 0; copies <= 6; copies++) {
            StemmaTree x = alike(copies);
            due("THE TREE of " + copies, x.count(3), 0);
            due("it is that, " + copies, x.chooses(0), STATE);
            due("nothing to undo, " + copies, x.count(9), 0);
        }
        StemmaTree six = alike(6);
        due("another", six.chooses(104), 0);
        due("it is that now", six.chooses(104), STATE);
        due("back again", six.chooses(0), 104);
    }

    /** "that of fewest CHANGES, of several the lowest number" */
    private static void betteredOfSeveralTheLowest() {
        StemmaTree x = Check.told("ma;mb;ma;m?;mb;");
        x.chooses(1);
        due("two changes", x.changes(1, 0), 2);
        for (int like : new int[] {4, 10, 13}) {
            due("one change of " + like, x.changes(like, 0), 1);
        }
        due("the lowest of three", x.betters(), 4);
        StemmaTree fewest = Check.told("maaa;mbaa;mabb;mbbb;");
        due("most", fewest.changes(0, -1), 6);
        due("fewer", fewest.changes(1, -1), 5);
        due("fewest", fewest.changes(2, -1), 4);
        due("fewest, not the first that has fewer", fewest.betters(), 2);
        StemmaTree worse = Check.told("ma;mb;ma;mb;m?;");
        worse.chooses(12);
        due("a lower number with more changes", worse.changes(0, -1), 2);
        due("is not taken", worse.betters(), 13);
    }

    /** "hung on another EDGE number": each that there is, the lowest and the highest, too */
    private static void betteredOntoEachEdge() {
        int[] ownEdges = {0, 1, 2, 4, 6};
        int[] weights = {1, 3, 15};
        for (int copy = 3; copy < 6; copy++) {
            for (int mate = 0; mate < copy; mate++) {
                StemmaTree x = parted(copy + 1, 1 << mate | 1 << copy);
                int elsewhere = (ownEdges[mate] + 1) % (2 * copy - 3);
                x.chooses(elsewhere * weights[copy - 3]);
                due(copy + " to " + mate, x.betters(), ownEdges[mate] * weights[copy - 3]);
            }
        }
    }

    /** "when one COPY (3 on) is hung on another EDGE number (the others on theirs)" */
    private static void betteredByOneCopyAlone() {
        StemmaTree x = Check.told("maaaaaaaa;mbbbbbbbb;mcccccccc;maaaaaaaa;mbbbbbbbb;mcccccccc;");
        int best = 0 + 3 * 1 + 15 * 2;
        due("the best one", x.changes(best, -1), 16);
        x.chooses(2 + 3 * 2 + 15 * 0);
        for (int step = 0; step < 8; step++) {
            int before = x.count(3);
            int then = x.betters();
            if (then == STATE) {
                due("STATE leaves THE TREE", x.count(3), before);
                break;
            }
            int moved = (then % 3 != before % 3 ? 1 : 0) + (then / 3 % 5 != before / 3 % 5 ? 1 : 0)
                    + (then / 15 != before / 15 ? 1 : 0);
            due("one copy moved from " + before + " to " + then, moved, 1);
            CHECK.isTrue("fewer changes", x.changes(then, -1) < x.changes(before, -1));
        }
        StemmaTree four = Check.told("ma;mb;ma;mb;");
        due("four copies: one step is enough", four.betters(), 1);
    }

    /** "becomes THE TREE, if it has fewer"; "STATE: none has fewer CHANGES." */
    private static void betteredOnlyIfFewer() {
        for (int copies = 0; copies <= 6; copies++) {
            StemmaTree x = alike(copies);
            due("none has fewer, " + copies, x.betters(), STATE);
            due("nothing to undo, " + copies, x.count(9), 0);
            due("THE TREE stays, " + copies, x.count(3), 0);
        }
        StemmaTree like = Check.told("maa;mab;mba;mbb;");
        like.chooses(2);
        due("as many, not fewer", like.changes(1, -1), like.changes(2, -1));
        due("a like one is not taken", like.betters(), STATE);
        StemmaTree three = Check.told("ma;mb;mc;");
        due("three copies", three.betters(), STATE);
    }

    /** "(10 are known, older ones are lost)" */
    private static void undoneKnowsTen() {
        StemmaTree ten = alike(6);
        for (int tree = 1; tree <= 10; tree++) {
            ten.chooses(tree);
        }
        due("ten known", ten.count(9), 10);
        for (int more = 9; more >= 0; more--) {
            due("more of ten", ten.undo(), more);
            due("THE TREE then", ten.count(3), more);
        }
        due("none of ten", ten.undo(), STATE);
        StemmaTree eleven = alike(6);
        for (int tree = 1; tree <= 11; tree++) {
            eleven.chooses(tree);
        }
        due("still ten known", eleven.count(9), 10);
        for (int more = 9; more >= 0; more--) {
            due("more of eleven", eleven.undo(), more);
            due("THE TREE then, of eleven", eleven.count(3), more + 1);
        }
        due("the oldest is lost", eleven.undo(), STATE);
        due("it stands", eleven.count(3), 1);
        due("there is room again", eleven.chooses(50), 1);
        due("one known", eleven.undo(), 0);
    }

    /** The same, of reads() and chooses() in turns */
    private static void undoneLosesTheOldestOfEachKind() {
        StemmaTree tree = Check.told("maaaaa;maaaaa;maaaaa;maaaaa;");
        tree.chooses(2);
        for (int i = 0; i < 10; i++) {
            tree.reads(i / 5, i % 5, 1 + i % 3);
        }
        for (int i = 9; i >= 0; i--) {
            due("a reading was " + i, tree.reading(i / 5, i % 5), 1 + i % 3);
            due("readings are undone, " + i, tree.undo(), i);
            due("a reading is as told, " + i, tree.reading(i / 5, i % 5), 0);
        }
        due("THE TREE is not", tree.undo(), STATE);
        due("and stays", tree.count(3), 2);
        StemmaTree reading = Check.told("ma;ma;ma;ma;ma;ma;");
        reading.reads(5, 0, 3);
        for (int number = 1; number <= 10; number++) {
            reading.chooses(number);
        }
        for (int i = 9; i >= 0; i--) {
            due("trees are undone, " + i, reading.undo(), i);
            due("THE TREE then, " + i, reading.count(3), i);
        }
        due("the reading is not", reading.undo(), STATE);
        due("it stays", reading.reading(5, 0), 3);
    }

    /** "UNDONE: the latest reads(), chooses(), betters() that was not refused" */
    private static void undoneLeavesRefusedOnesOut() {
        StemmaTree x = Check.told("maa;mba;maa;mba;");
        x.reads(0, 1, 2);
        x.reads(0, 1, 2);
        x.reads(0, 1, 5);
        x.chooses(0);
        x.chooses(3);
        due("bettered", x.betters(), 1);
        x.betters();
        x.sees(1);
        x.forget();
        x.keep(0);
        x.type('m');
        x.clear();
        due("two known", x.count(9), 2);
        due("betters is undone", x.undo(), 1);
        due("THE TREE", x.count(3), 0);
        due("still read", x.reading(0, 1), 2);
        due("reads is undone", x.undo(), 0);
        due("as told", x.reading(0, 1), 0);
        due("undo is not undone", x.undo(), STATE);
    }

    /** "UNDONE: how many more may be. STATE: none." */
    private static void undoneSaysHowManyMore() {
        StemmaTree x = Check.told("m?;m?;");
        due("none", x.undo(), STATE);
        x.reads(0, 0, 0);
        due("of one", x.undo(), 0);
        due("lost again", x.reading(0, 0), NONE);
        due("none again", x.undo(), STATE);
        due("without copies", new StemmaTree().undo(), STATE);
    }

    /** "RANK: TREES by CHANGES, the fewest first, of like ones by numbers." */
    private static void rankOfLikeOnesByNumbers() {
        StemmaTree x = alike(6);
        for (int k = 0; k < 105; k++) {
            due("like ones, rank " + k, x.rank(k), k);
        }
        StemmaTree four = Check.told("ma;ma;mb;mb;");
        due("the fewest first", four.rank(0), 2);
        due("then the lowest", four.rank(1), 0);
        due("then the next", four.rank(2), 1);
    }

    /** "The k-th TREE of RANK (0 on); NONE. BAD: k below 0." */
    private static void rankBelow0AndBehindTheLast() {
        for (int copies = 0; copies <= 6; copies++) {
            StemmaTree x = alike(copies);
            due("the last of " + copies, x.rank(TREES[copies] - 1), TREES[copies] - 1);
            due("behind the last of " + copies, x.rank(TREES[copies]), NONE);
            due("far behind, " + copies, x.rank(Integer.MAX_VALUE), NONE);
            due("below 0, " + copies, x.rank(-1), BAD);
            due("far below, " + copies, x.rank(Integer.MIN_VALUE), BAD);
        }
    }

    /** "fewest CHANGES (what = 0), how many TREES (1), BOUND (2), whether BOUND is the fewest (3; 1, 0). BAD." */
    private static void bestWhats() {
        StemmaTree most = Check.told("maaaaaaaa;mbbbbbbbb;mcccccccc;maaaaaaaa;mbbbbbbbb;mdddddddd;");
        due("fewest at eight places", most.best(0), 24);
        due("bound at eight places", most.best(2), 24);
        due("proved", most.best(3), 1);
        due("the worst tree", most.changes(most.rank(104), -1), 32);
        due("all alike", alike(6).best(1), 105);
        due("one of three", Check.told("ma;mb;ma;mb;").best(1), 1);
        due("two of three", Check.told("maa;mab;mba;mbb;").best(1), 2);
        for (int wrong : new int[] {-1, 4, 5, Integer.MIN_VALUE, Integer.MAX_VALUE}) {
            due("what " + wrong, most.best(wrong), BAD);
        }
        for (int what = 0; what < 4; what++) {
            due("no copies, what " + what, new StemmaTree().best(what), what % 2);
        }
    }

    /** "(As things are NOW; nothing is changed.)" */
    private static void asThingsAreNow() {
        StemmaTree x = Check.told("ma;ma;ma;ma;");
        bestIs("told", x, 0, 3, 0);
        x.reads(2, 0, 1);
        bestIs("read once", x, 1, 3, 0);
        x.keep(0);
        x.reads(3, 0, 1);
        bestIs("read twice", x, 1, 1, 2);
        x.undo();
        bestIs("undone", x, 1, 3, 0);
        x.reads(1, 0, 1);
        bestIs("read otherwise", x, 1, 1, 0);
        x.reads(1, 0, 0);
        x.reads(0, 0, 1);
        bestIs("and otherwise", x, 1, 1, 1);
        x.back(0);
        bestIs("back", x, 1, 3, 0);
        Check.type(x, "ma;mb;ma;mb;");
        bestIs("typed, not told yet", x, 1, 3, 0);
        x.copies();
        bestIs("told anew", x, 1, 1, 1);
        x.chooses(2);
        bestIs("another tree chosen", x, 1, 1, 1);
    }

    private static void bestIs(String when, StemmaTree x, int fewest, int trees, int first) {
        due("fewest, " + when, x.best(0), fewest);
        due("trees, " + when, x.best(1), trees);
        due("first, " + when, x.rank(0), first);
    }
}
