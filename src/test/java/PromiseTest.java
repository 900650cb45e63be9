/** Each promise of the document by its number: ordinary inputs, the edges it names, wrong inputs. */
public final class PromiseTest {
    private static final int BAD = -1, STATE = -2, FULL = -3, NONE = -9;
    private static final Check CHECK = new Check();

    public static void main(String[] args) {
        constants();
        promise1();
        promise2();
        promise3();
        promise4();
        promise4Faults();
        promise5();
        promise6();
        promise7();
        promise8();
        promise9();
        promise10();
        promise11();
        promise12();
        promise13();
        promise14();
        promise15();
        promise16();
        promise17();
        promise18();
        promise19();
        promise20();
        promise21();
        promise22();
        promise23();
        promise24();
        CHECK.end();
    }

    private static void due(String call, long got, long want) {
        CHECK.due(call, got, want);
    }

    private static void constants() {
        due("BAD", StemmaTree.BAD, -1);
        due("STATE", StemmaTree.STATE, -2);
        due("FULL", StemmaTree.FULL, -3);
        due("NONE", StemmaTree.NONE, -9);
    }

    private static void promise1() {
        StemmaTree x = new StemmaTree();
        int[] counts = {0, 0, 1, 0, 0, 0, 0, 0, 0, 0};
        for (int what = 0; what < counts.length; what++) {
            due("1 count(" + what + ")", x.count(what), counts[what]);
        }
        due("1 reading", x.reading(0, 0), BAD);
        due("1 undo", x.undo(), STATE);
        due("1 back", x.back(0), STATE);
        due("1 back to the other", x.back(1), STATE);
        due("1 forget", x.forget(), 0);
        due("1 clear", x.clear(), 0);
        due("1 betters", x.betters(), STATE);
        due("1 it is TREE 0", x.chooses(0), STATE);
        due("1 there is no TREE 1", x.chooses(1), BAD);
        due("1 changes", x.changes(0, -1), 0);
        due("1 no place", x.changes(0, 0), BAD);
        due("1 no edge", x.directed(0, 0), BAD);
        due("1 root", x.root(0), NONE);
        due("1 rank", x.rank(0), 0);
        due("1 one tree", x.rank(1), NONE);
        int[] best = {0, 1, 0, 1};
        for (int what = 0; what < best.length; what++) {
            due("1 best(" + what + ")", x.best(what), best[what]);
        }
        due("1 unseen", x.unseen(), 0);
        due("1 fitting", x.fitting(0, 0), BAD);
        due("1 shared", x.shared(0, 0), BAD);
        due("1 quarrel", x.quarrel(0, 1), BAD);
        due("1 mixed", x.mixed(0, 0), BAD);
    }

    private static void promise2() {
        StemmaTree x = new StemmaTree();
        due("2 below", x.type(-1), BAD);
        due("2 above", x.type(256), BAD);
        due("2 lowest", x.type(0), 1);
        due("2 highest", x.type(255), 2);
        for (int i = 3; i <= 90; i++) {
            due("2 letter " + i, x.type(32), i);
        }
        due("2 full", x.type(32), FULL);
        due("2 BAD ahead of FULL", x.type(256), BAD);
        due("2 refused ones changed nothing", x.count(8), 90);
    }

    private static void promise3() {
        StemmaTree x = new StemmaTree();
        due("3 empty", x.clear(), 0);
        Check.type(x, "mab;");
        due("3 four", x.clear(), 4);
        due("3 again", x.clear(), 0);
        due("3 nothing is told", x.copies(), 0);
        due("3 letters count anew", x.type('m'), 1);
    }

    private static void promise4() {
        StemmaTree x = Check.told("m ab; mba ;m??;");
        due("4 copies", x.count(0), 3);
        due("4 places", x.count(1), 2);
        due("4 the text is empty", x.count(8), 0);
        x.chooses(0);
        x.reads(0, 0, 2);
        x.sees(1);
        x.keep(0);
        x.keep(1);
        Check.type(x, "maaa");
        due("4 a fault", x.copies(), -14);
        due("4 a fault leaves the copies", x.count(0), 3);
        due("4 a fault leaves the reading", x.reading(0, 0), 2);
        due("4 a fault leaves the text", x.count(8), 4);
        due("4 a fault leaves what may be undone", x.count(9), 1);
        due("4 a fault leaves what was seen", x.count(7), 1);
        due("4 a fault leaves images", x.back(1), 3);
        x.reads(0, 0, 3);
        due("4 the text goes on", x.type(';'), 5);
        due("4 told anew", x.copies(), 1);
        due("4 nothing can be undone", x.count(9), 0);
        due("4 nothing is seen", x.count(7), 0);
        due("4 images are gone", x.back(0), STATE);
        due("4 both", x.back(1), STATE);
        due("4 places anew", x.count(1), 3);
        due("4 readings anew", x.reading(0, 0), 0);
        due("4 an empty text", x.copies(), 0);
        due("4 tells of no copies", x.count(0), 0);
        due("4 and of no places", x.count(1), 0);
        StemmaTree y = Check.told("mab;mba;maa;mbb;mab;mba;");
        y.chooses(100);
        Check.type(y, "ma;ma;ma;ma;ma;ma;");
        y.copies();
        due("4 THE TREE is 0", y.count(3), 0);
        due("4 changes of those", y.best(0), 0);
        Check.type(y, "ma;mb;");
        y.copies();
        due("4 changes are counted anew", y.best(0), 1);
    }

    private static void promise4Faults() {
        due("4 most", Check.fault("mabcdabcd;mabcdabcd;mabcdabcd;mabcdabcd;mabcdabcd;mabcdabcd;"), 6);
        due("4 only blanks", Check.fault("   "), 0);
        due("4 reading outside", Check.fault("  a;"), -12);
        due("4 end outside", Check.fault(" ;"), -11);
        due("4 no readings", Check.fault("m ;"), -12);
        due("4 ninth reading", Check.fault("mabcdabcda;"), -19);
        due("4 ninth, lost", Check.fault("m????????  ?;"), -21);
        due("4 too few", Check.fault("mab;ma;"), -16);
        due("4 none in the second", Check.fault("mab;m;"), -15);
        due("4 too many", Check.fault("mab;mab?;"), -17);
        due("4 seventh m", Check.fault("ma;ma;ma;ma;ma;ma; ma;"), -29);
        due("4 m in an item", Check.fault("mam"), -12);
        due("4 m behind m", Check.fault("mm"), -11);
        due("4 two ends", Check.fault("ma;;"), -13);
        due("4 ends behind m", Check.fault("m"), -11);
        due("4 ends behind a reading", Check.fault("ma "), -13);
        due("4 ends in the second", Check.fault("ma;mb"), -15);
        due("4 other letter", Check.fault("mae;"), -12);
        due("4 other letter outside", Check.fault("ma;e"), -13);
        due("4 upper case", Check.fault("mA;"), -11);
        due("4 letter ahead of a", Check.fault("m`;"), -11);
        due("4 tab", Check.fault("m\ta;"), -11);
        due("4 the first fault counts", Check.fault("ma;;e"), -13);
        due("4 the first fault counts, too", Check.fault("mae;;"), -12);
        StemmaTree x = new StemmaTree();
        x.type('m');
        x.type(0);
        due("4 letter 0", x.copies(), -11);
        due("4 full, and ends too early", Check.fault("m" + "a" + " ".repeat(88)), -100);
    }

    private static void promise5() {
        StemmaTree x = Check.told("mabcd?;mdcb?a;");
        int[][] want = {{0, 1, 2, 3, NONE}, {3, 2, 1, NONE, 0}};
        for (int copy = 0; copy < 2; copy++) {
            for (int place = 0; place < 5; place++) {
                due("5 reading(" + copy + ", " + place + ")", x.reading(copy, place), want[copy][place]);
            }
        }
        due("5 copy below", x.reading(-1, 0), BAD);
        due("5 copy above", x.reading(2, 0), BAD);
        due("5 place below", x.reading(0, -1), BAD);
        due("5 place above", x.reading(0, 5), BAD);
        due("5 far", x.reading(Integer.MIN_VALUE, Integer.MAX_VALUE), BAD);
    }

    private static void promise6() {
        StemmaTree x = Check.told("ma?;mbc;");
        due("6 another", x.reads(0, 0, 3), 0);
        due("6 it is", x.reading(0, 0), 3);
        due("6 lost", x.reads(0, 0, 4), 3);
        due("6 it is lost", x.reading(0, 0), NONE);
        due("6 lost it is", x.reads(0, 0, 4), STATE);
        due("6 was lost", x.reads(0, 1, 2), 4);
        due("6 it is that", x.reads(0, 1, 2), STATE);
        due("6 another copy is as it was", x.reading(1, 0), 1);
        due("6 another place is as it was", x.reading(1, 1), 2);
        due("6 reading below", x.reads(0, 0, -1), BAD);
        due("6 reading above", x.reads(0, 0, 5), BAD);
        due("6 copy", x.reads(2, 0, 0), BAD);
        due("6 copy below", x.reads(-1, 0, 0), BAD);
        due("6 place", x.reads(0, 2, 0), BAD);
        due("6 place below", x.reads(0, -1, 0), BAD);
        due("6 refused ones are not known", x.count(9), 3);
        due("6 changes are counted anew", x.best(0), 0);
        x.reads(0, 0, 0);
        due("6 and once more", x.best(0), 1);
        StemmaTree wide = Check.told("mabc;mdcb;");
        due("6 more places than copies", wide.reads(1, 2, 0), 1);
        due("6 at that place", wide.reading(1, 2), 0);
        due("6 undone", wide.undo(), 0);
        due("6 as it was", wide.reading(1, 2), 1);
        StemmaTree high = Check.told("ma;mb;mc;");
        due("6 more copies than places", high.reads(2, 0, 4), 2);
        due("6 of that copy", high.reading(2, 0), NONE);
    }

    private static void promise7() {
        StemmaTree x = Check.told("ma;mb;ma;mb;");
        due("7 it is that", x.chooses(0), STATE);
        due("7 last", x.chooses(2), 0);
        due("7 another", x.chooses(1), 2);
        due("7 above", x.chooses(3), BAD);
        due("7 below", x.chooses(-1), BAD);
        due("7 THE TREE", x.count(3), 1);
        due("7 known", x.count(9), 2);
    }

    private static void promise8() {
        StemmaTree x = Check.told("maa;mbb;maa;mbb;");
        due("8 changes of 0", x.changes(0, -1), 4);
        due("8 changes of 1", x.changes(1, -1), 2);
        due("8 bettered", x.betters(), 1);
        due("8 none is better", x.betters(), STATE);
        due("8 one is known", x.count(9), 1);
        due("8 the last edge", Check.told("ma;ma;mb;mb;").betters(), 2);
        StemmaTree three = Check.told("ma;mb;mc;");
        due("8 three copies", three.betters(), STATE);
        StemmaTree none = new StemmaTree();
        due("8 no copies", none.betters(), STATE);
        StemmaTree steps = Check.told("maaaaaaaa;maaaabbbb;mbbbbaaaa;mbbbbbbbb;maabbaabb;mbbaabbaa;");
        steps.chooses(104);
        due("8 one step", steps.betters(), 29);
        due("8 no further", steps.betters(), STATE);
        lowestOfSeveralIsBetter();
    }

    /** A tree that differs by two hangings is never taken, a like one with a lower number is. */
    private static void lowestOfSeveralIsBetter() {
        String text = "maab;mbba;maab;mbba;mabb;mbaa;";
        int[] changes = new int[105];
        StemmaTree asked = Check.told(text);
        for (int tree = 0; tree < 105; tree++) {
            changes[tree] = asked.changes(tree, -1);
        }
        for (int tree = 0; tree < 105; tree++) {
            int best = tree;
            for (int other = 104; other >= 0; other--) {
                int unlike = (other % 3 != tree % 3 ? 1 : 0) + (other / 3 % 5 != tree / 3 % 5 ? 1 : 0)
                        + (other / 15 != tree / 15 ? 1 : 0);
                if (unlike == 1 && changes[other] < changes[tree] && changes[other] <= changes[best]) {
                    best = other;
                }
            }
            StemmaTree x = Check.told(text);
            x.chooses(tree);
            due("8 of " + tree, x.betters(), best == tree ? STATE : best);
            due("8 THE TREE of " + tree, x.count(3), best);
        }
    }

    private static void promise9() {
        StemmaTree x = Check.told("maa;mbb;maa;mbb;");
        due("9 none", x.undo(), STATE);
        x.reads(1, 1, 4);
        x.betters();
        x.chooses(2);
        x.chooses(2);
        x.chooses(9);
        due("9 chooses", x.undo(), 2);
        due("9 THE TREE as bettered", x.count(3), 1);
        due("9 betters", x.undo(), 1);
        due("9 THE TREE at first", x.count(3), 0);
        due("9 still lost", x.reading(1, 1), NONE);
        due("9 reads", x.undo(), 0);
        due("9 as told", x.reading(1, 1), 1);
        due("9 no more", x.undo(), STATE);
        due("9 changes", x.best(0), 2);
        x.reads(0, 0, 3);
        due("9 more changes", x.best(0), 3);
        x.undo();
        due("9 changes are counted anew", x.best(0), 2);
        for (int i = 0; i < 12; i++) {
            x.reads(0, 0, i % 2 == 0 ? 2 : 3);
            due("9 known " + i, x.count(9), Math.min(i + 1, 10));
        }
        for (int i = 9; i >= 0; i--) {
            due("9 more " + i, x.undo(), i);
        }
        due("9 older ones are lost", x.undo(), STATE);
        due("9 as of the second", x.reading(0, 0), 3);
        olderOnesAreLostInTheirOrder();
    }

    private static void olderOnesAreLostInTheirOrder() {
        StemmaTree x = Check.told("maaaa;mbbbb;mcccc;mdddd;");
        x.chooses(1);
        x.reads(0, 0, 4);
        for (int place = 0; place < 4; place++) {
            x.reads(1, place, 4);
            x.reads(2, place, 4);
        }
        x.chooses(2);
        x.reads(3, 3, 0);
        due("9 ten of twelve", x.count(9), 10);
        due("9 the latest", x.undo(), 9);
        due("9 read back", x.reading(3, 3), 3);
        due("9 the one ahead of it", x.undo(), 8);
        due("9 THE TREE back", x.count(3), 1);
        for (int place = 3; place >= 0; place--) {
            x.undo();
            due("9 copy 2 at " + place, x.reading(2, place), 2);
            due("9 copy 1 is lost yet at " + place, x.reading(1, place), NONE);
            x.undo();
            due("9 copy 1 at " + place, x.reading(1, place), 1);
        }
        due("9 two are lost", x.undo(), STATE);
        due("9 the second stands", x.reading(0, 0), NONE);
        due("9 the first stands", x.count(3), 1);
    }

    private static void promise10() {
        StemmaTree x = Check.told("mabc?;mbac?;mabd?;mbad?;macca;");
        due("10 place 3: one told", x.changes(0, 3), 0);
        due("10 all", x.changes(0, -1), x.changes(0, 0) + x.changes(0, 1) + x.changes(0, 2) + x.changes(0, 3));
        StemmaTree four = Check.told("ma?;mb?;ma?;mb?;");
        due("10 tree 0", four.changes(0, 0), 2);
        due("10 tree 1", four.changes(1, 0), 1);
        due("10 tree 2", four.changes(2, 0), 2);
        due("10 all lost", four.changes(0, 1), 0);
        due("10 of the tree", four.changes(1, -1), 1);
        StemmaTree lost = Check.told("ma;m?;mb;m?;ma;m?;");
        due("10 lost ones as one likes", lost.changes(7, 0), 1);
        due("10 four readings", Check.told("ma;mb;mc;md;").changes(2, 0), 3);
        due("10 tree above", four.changes(3, 0), BAD);
        due("10 tree below", four.changes(-1, 0), BAD);
        due("10 place above", four.changes(0, 2), BAD);
        due("10 place below", four.changes(0, -2), BAD);
        due("10 one copy", Check.told("mab;").changes(0, -1), 0);
        due("10 two copies", Check.told("mab;mac;").changes(0, -1), 1);
        due("10 two copies, one lost", Check.told("ma;m?;").changes(0, 0), 0);
        hungAsTold();
    }

    /** One change is enough for two odd ones just where the last copy is hung on the other's own edge. */
    private static void hungAsTold() {
        String[] texts = {"mb;ma;ma;ma;mb;", "ma;mb;ma;ma;mb;", "ma;ma;mb;ma;mb;", "ma;ma;ma;mb;mb;"};
        int[] ownEdges = {0, 1, 2, 4};
        for (int other = 0; other < 4; other++) {
            StemmaTree x = Check.told(texts[other]);
            for (int tree = 0; tree < 15; tree++) {
                due("10 hung " + other + ", " + tree, x.changes(tree, 0), tree / 3 == ownEdges[other] ? 1 : 2);
            }
        }
    }

    private static void promise11() {
        StemmaTree two = Check.told("mad;mda;");
        due("11 two copies", two.directed(0, 0), 2);
        StemmaTree x = Check.told("ma;mb;mb;");
        due("11 root by a", x.directed(0, 0), 1);
        due("11 root by b", x.directed(0, 1), 2);
        due("11 root by the other b", x.directed(0, 2), 2);
        StemmaTree down = Check.told("mb;ma;ma;");
        due("11 root on the higher one's edge", down.directed(0, 0), 1);
        due("11 root by a", down.directed(0, 1), 1);
        StemmaTree lost = Check.told("md;m?;ma;");
        due("11 a lost one costs nothing", lost.directed(0, 1), 1);
        due("11 no edge with one copy", Check.told("ma;").directed(0, 0), BAD);
        due("11 edge above", x.directed(0, 3), BAD);
        due("11 edge below", x.directed(0, -1), BAD);
        due("11 tree above", x.directed(1, 0), BAD);
        due("11 tree below", x.directed(-1, 0), BAD);
        StemmaTree five = Check.told("maabba;maabbb;mabbca;mbbbc?;mbaaca;");
        int[] first = {10, 10, 10, 10, 10, 10, 9};
        int[] last = {7, 7, 8, 7, 8, 9, 8};
        for (int edge = 0; edge < 7; edge++) {
            due("11 directed(0, " + edge + ")", five.directed(0, edge), first[edge]);
            due("11 directed(14, " + edge + ")", five.directed(14, edge), last[edge]);
        }
    }

    private static void promise12() {
        StemmaTree x = Check.told("mb;ma;mb;");
        due("12 by a", x.root(0), 1);
        due("12 of several the lowest", Check.told("ma;mb;mc;").root(0), 0);
        due("12 two copies", Check.told("ma;mb;").root(0), 0);
        due("12 one copy", Check.told("ma;").root(0), NONE);
        due("12 no copy", new StemmaTree().root(0), NONE);
        due("12 no such tree, no edge", new StemmaTree().root(1), BAD);
        due("12 above", x.root(1), BAD);
        due("12 below", x.root(-1), BAD);
        due("12 a new edge", Check.told("maabba;maabbb;mabbca;mbbbc?;mbaaca;").root(0), 6);
    }

    private static void promise13() {
        StemmaTree x = Check.told("ma;mb;ma;mb;");
        int[] order = {1, 0, 2, NONE};
        for (int k = 0; k < order.length; k++) {
            due("13 rank(" + k + ")", x.rank(k), order[k]);
        }
        due("13 far", x.rank(Integer.MAX_VALUE), NONE);
        due("13 below", x.rank(-1), BAD);
        due("13 no copies", new StemmaTree().rank(0), 0);
        due("13 no more", new StemmaTree().rank(1), NONE);
        StemmaTree six = Check.told("maaaaaaaa;maaaabbbb;mbbbbaaaa;mbbbbbbbb;maabbaabb;mbbaabbaa;");
        int before = six.rank(0);
        for (int k = 1; k < 105; k++) {
            int tree = six.rank(k);
            int more = six.changes(tree, -1) - six.changes(before, -1);
            CHECK.isTrue("13 order at " + k, more > 0 || more == 0 && tree > before);
            before = tree;
        }
        x.reads(1, 0, 0);
        due("13 as things are now", x.rank(0), 0);
    }

    private static void promise14() {
        StemmaTree x = Check.told("maa?;mba?;mab?;mbb?;");
        due("14 fewest", x.best(0), 3);
        due("14 trees", x.best(1), 2);
        due("14 bound", x.best(2), 2);
        due("14 not proved", x.best(3), 0);
        due("14 above", x.best(4), BAD);
        due("14 below", x.best(-1), BAD);
        StemmaTree y = Check.told("mad;mbd;mac;mb?;");
        due("14 fewest", y.best(0), 2);
        due("14 one tree", y.best(1), 1);
        due("14 proved", y.best(3), 1);
        due("14 none told", Check.told("m?;m?;").best(2), 0);
        due("14 four told", Check.told("ma;mb;mc;md;").best(2), 3);
        due("14 no changes", Check.told("mab;mab;mab;").best(0), 0);
        due("14 like ones", Check.told("ma;ma;ma;ma;ma;ma;").best(1), 105);
    }

    private static void promise15() {
        StemmaTree x = Check.told("ma;mb;ma;m?;");
        due("15 hung by a", x.fitting(3, 0), 1);
        x.chooses(1);
        due("15 hung by b", x.fitting(3, 0), 3);
        due("15 not lost", x.fitting(0, 0), NONE);
        due("15 copy", x.fitting(4, 0), BAD);
        due("15 copy below", x.fitting(-1, 0), BAD);
        due("15 place", x.fitting(3, 1), BAD);
        due("15 place below", x.fitting(3, -1), BAD);
        due("15 all lost", Check.told("m?;m?;m?;").fitting(1, 0), 15);
        due("15 two copies", Check.told("mc;m?;").fitting(1, 0), 4);
        due("15 three kinds", Check.told("ma;mb;m?;").fitting(2, 0), 3);
        StemmaTree square = Check.told("ma?;mcb;");
        due("15 lost at that place", square.fitting(0, 1), 2);
        due("15 not lost at the other", square.fitting(1, 0), NONE);
        due("15 nothing is changed", x.count(5), 1);
        due("15 nor read", x.reading(3, 0), NONE);
    }

    private static void promise16() {
        StemmaTree x = Check.told("maaa;mabc;mbab;mbba;");
        due("16 all four ways", x.quarrel(0, 1), 1);
        due("16 the other way round", x.quarrel(1, 0), 1);
        due("16 one way is missing", x.quarrel(0, 2), 0);
        due("16 the same", x.quarrel(1, 1), BAD);
        due("16 above", x.quarrel(0, 3), BAD);
        due("16 first above", x.quarrel(3, 0), BAD);
        due("16 below", x.quarrel(-1, 0), BAD);
        due("16 second below", x.quarrel(0, -1), BAD);
        x.reads(3, 1, 4);
        due("16 a copy that tells one", x.quarrel(0, 1), 0);
        due("16 higher readings", Check.told("mcb;mcd;mdb;mdd;maa;").quarrel(0, 1), 1);
        due("16 unlike twos", Check.told("mab;mac;mbb;mbd;").quarrel(0, 1), 0);
        due("16 the first way is missing", Check.told("mab;mba;mbb;").quarrel(0, 1), 0);
        due("16 a lost one makes no way", Check.told("maa;mab;mbb;ma?;m?a;").quarrel(0, 1), 0);
        due("16 lost ones are no kind", Check.told("ma?;mab;mb?;mbb;").quarrel(0, 1), 0);
    }

    private static void promise17() {
        StemmaTree x = Check.told("mab;mb?;ma?;mc?;mab;");
        due("17 three", x.shared(0, 0), 21);
        due("17 of the last", x.shared(0, 4), 21);
        due("17 alone", x.shared(0, 1), 2);
        due("17 lost", x.shared(1, 1), 0);
        due("17 lost ones don't share", x.shared(1, 0), 17);
        due("17 place", x.shared(2, 0), BAD);
        due("17 place below", x.shared(-1, 0), BAD);
        due("17 copy", x.shared(0, 5), BAD);
        due("17 copy below", x.shared(0, -1), BAD);
    }

    private static void promise18() {
        StemmaTree x = Check.told("maabb;maacc;mddbb;");
        int[] want = {0, 1, 2, 2, 2};
        for (int what = 0; what < 5; what++) {
            due("18 mixed(0, " + what + ")", x.mixed(0, what), want[what]);
        }
        due("18 what above", x.mixed(0, 5), BAD);
        due("18 what below", x.mixed(0, -1), BAD);
        due("18 copy above", x.mixed(3, 0), BAD);
        due("18 copy below", x.mixed(-1, 0), BAD);
        StemmaTree like = Check.told("maaa;maaa;maaa;maaa;");
        due("18 least p", like.mixed(1, 1), 0);
        due("18 least q", like.mixed(1, 2), 2);
        due("18 least c", like.mixed(1, 3), 1);
        StemmaTree lost = Check.told("maaa;m?bb;mbb?;");
        due("18 lost ones are like all", lost.mixed(0, 0), 1);
        due("18 p", lost.mixed(0, 1), 1);
        due("18 c", lost.mixed(0, 3), 1);
        due("18 plain", lost.mixed(0, 4), 2);
        StemmaTree swapped = Check.told("maabb;mbbbb;maaaa;");
        due("18 p is the later one", swapped.mixed(0, 1), 2);
        due("18 q is the earlier one", swapped.mixed(0, 2), 1);
        StemmaTree around = Check.told("mddbb;maabb;maacc;mdddd;");
        due("18 unlikes of the second copy", around.mixed(1, 0), 0);
        due("18 p stands behind it", around.mixed(1, 1), 2);
        due("18 q stands ahead of it", around.mixed(1, 2), 0);
        due("18 plain by the first copy", Check.told("maa;mab;mbc;").mixed(1, 4), 1);
        StemmaTree pair = Check.told("mab;mac;mdb;");
        due("18 two places", pair.mixed(0, 0), 0);
        due("18 c at two places", pair.mixed(0, 3), 1);
        StemmaTree odd = Check.told("maaaaaaaa;mbbbbbbbb;mcccccccc;");
        due("18 unlike everywhere", odd.mixed(0, 0), 8);
        due("18 p, unlike everywhere", odd.mixed(2, 1), 0);
        due("18 q, unlike everywhere", odd.mixed(2, 2), 1);
        StemmaTree two = Check.told("maaa;mabb;");
        StemmaTree narrow = Check.told("ma;mb;mb;");
        StemmaTree one = Check.told("mab;");
        for (int what = 0; what < 4; what++) {
            due("18 two copies " + what, two.mixed(0, what), NONE);
            due("18 one place " + what, narrow.mixed(0, what), NONE);
            due("18 one copy " + what, one.mixed(0, what), NONE);
        }
        due("18 plain of two copies", two.mixed(0, 4), 2);
        due("18 plain at one place", narrow.mixed(0, 4), 1);
        due("18 plain at one place, a like one", narrow.mixed(1, 4), 0);
        due("18 plain of one copy", one.mixed(0, 4), NONE);
        due("18 BAD ahead of NONE", one.mixed(0, 5), BAD);
        due("18 all eight unlike", Check.told("maaaaaaaa;mbbbbbbbb;").mixed(0, 4), 8);
    }

    private static void promise19() {
        StemmaTree x = Check.told("ma;mb;");
        due("19 below", x.sees(-1), BAD);
        due("19 above", x.sees(7), BAD);
        due("19 refused ones are not seen", x.count(7), 0);
        for (int i = 0; i < 6; i++) {
            due("19 sees " + i, x.sees(i == 5 ? 6 : i), i + 1);
        }
        due("19 full", x.sees(0), FULL);
        due("19 BAD ahead of FULL", x.sees(7), BAD);
        due("19 seen", x.count(7), 6);
        due("19 is not to be undone", x.undo(), STATE);
        due("19 without copies", new StemmaTree().sees(3), 1);
        for (int n = 0; n <= 6; n++) {
            StemmaTree y = Check.told("ma;mb;ma;");
            y.sees(n);
            due("19 that n and no other, " + n, y.unseen(), n == 0 ? 2 : n == 1 ? 7 : n == 2 ? 5 : 0);
        }
    }

    private static void promise20() {
        StemmaTree x = Check.told("ma;mb;");
        due("20 nothing", x.forget(), 0);
        due("20 nothing to forget changes nothing", x.unseen(), 3);
        x.sees(0);
        x.sees(1);
        due("20 both can't be", x.unseen(), 0);
        due("20 forget", x.forget(), 2);
        due("20 nothing is seen", x.count(7), 0);
        due("20 all may be", x.unseen(), 3);
        due("20 again", x.forget(), 0);
        due("20 seen anew", x.sees(0), 1);
        due("20 by that alone", x.unseen(), 3);
        for (int i = 1; i < 6; i++) {
            x.sees(6);
        }
        due("20 all six", x.forget(), 6);
        due("20 there is room again", x.sees(6), 1);
        due("20 readings stand", x.reading(1, 0), 1);
    }

    private static void promise21() {
        StemmaTree x = Check.told("ma;ma;mb;m?;");
        due("21 nothing seen: all told ones", x.unseen(), 7);
        x.sees(0);
        due("21 only the odd one", x.unseen(), 4);
        x.sees(1);
        due("21 no reading makes both", x.unseen(), 0);
        x.forget();
        x.sees(2);
        due("21 two changes", x.unseen(), 3);
        x.sees(2);
        due("21 the same again", x.unseen(), 3);
        x.forget();
        x.sees(1);
        due("21 one change", x.unseen(), 7);
        x.reads(2, 0, 0);
        due("21 as things are now", x.unseen(), 7);
        x.forget();
        x.sees(0);
        due("21 all like: another reading changes", x.unseen(), 0);
        due("21 one copy", Check.told("mab;").unseen(), 1);
        due("21 lost at place 0", Check.told("m?b;").unseen(), 0);
        StemmaTree tree = Check.told("ma;mb;ma;mc;");
        tree.sees(1);
        due("21 by tree 0", tree.unseen(), 10);
        tree.chooses(1);
        due("21 by tree 1", tree.unseen(), 10);
        StemmaTree place = Check.told("maa;mab;");
        place.sees(1);
        due("21 place 0 alone", place.unseen(), 3);
    }

    private static void promise22() {
        StemmaTree x = Check.told("ma;mb;ma;mb;");
        due("22 below", x.keep(-1), BAD);
        due("22 above", x.keep(2), BAD);
        due("22 refused ones keep none", x.back(0), STATE);
        due("22 nor the other", x.back(1), STATE);
        due("22 keep", x.keep(0), 4);
        x.reads(1, 0, 4);
        x.chooses(2);
        due("22 the other", x.keep(1), 4);
        due("22 keeping leaves what may be undone", x.count(9), 2);
        due("22 keeping leaves readings", x.reading(1, 0), NONE);
        due("22 keeping leaves THE TREE", x.count(3), 2);
        due("22 trees as things are", x.best(1), 3);
        x.back(0);
        due("22 each has its own reading", x.reading(1, 0), 1);
        due("22 each has its own tree", x.count(3), 0);
        x.reads(0, 0, 2);
        due("22 over an old one", x.keep(0), 4);
        x.reads(0, 0, 1);
        x.back(0);
        due("22 the newer one", x.reading(0, 0), 2);
        x.back(1);
        due("22 the other is as it was", x.reading(0, 0), 0);
        due("22 its tree, too", x.count(3), 2);
        due("22 no copies", new StemmaTree().keep(1), 0);
        due("22 one copy", Check.told("mabcd;").keep(0), 1);
    }

    private static void promise23() {
        StemmaTree x = Check.told("ma;mb;ma;mb;");
        due("23 below", x.back(-1), BAD);
        due("23 above", x.back(2), BAD);
        due("23 none", x.back(0), STATE);
        x.keep(0);
        due("23 the other was not", x.back(1), STATE);
        x.reads(1, 0, 4);
        x.betters();
        x.chooses(2);
        x.sees(3);
        x.keep(1);
        Check.type(x, "ma");
        due("23 back", x.back(0), 4);
        due("23 reading", x.reading(1, 0), 1);
        due("23 THE TREE", x.count(3), 0);
        due("23 nothing can be undone", x.undo(), STATE);
        due("23 seen is as it was", x.count(7), 1);
        due("23 the text is as it was", x.count(8), 2);
        due("23 changes are counted anew", x.best(1), 1);
        due("23 the other", x.back(1), 4);
        due("23 lost", x.reading(1, 0), NONE);
        due("23 THE TREE of the other", x.count(3), 2);
        due("23 changes are counted anew, too", x.best(1), 3);
        x.reads(0, 0, 3);
        due("23 as often as one likes", x.back(1), 4);
        due("23 an image doesn't change", x.reading(0, 0), 0);
        x.reads(0, 0, 3);
        due("23 a refused one", x.back(2), BAD);
        due("23 leaves readings", x.reading(0, 0), 3);
        due("23 leaves what may be undone", x.undo(), 0);
        StemmaTree none = new StemmaTree();
        none.keep(1);
        due("23 no copies", none.back(1), 0);
    }

    private static void promise24() {
        StemmaTree x = Check.told("maaa;mab?;mba?;mbb?;m???;");
        int[] counts = {5, 3, 15, 0, 7, 6, 1, 0, 0, 0};
        for (int what = 0; what < counts.length; what++) {
            due("24 count(" + what + ")", x.count(what), counts[what]);
        }
        due("24 below", x.count(-1), BAD);
        due("24 above", x.count(10), BAD);
        x.chooses(14);
        x.reads(0, 2, 4);
        x.sees(2);
        x.type('m');
        int[] then = {5, 3, 15, 14, 7, 7, 1, 1, 1, 2};
        for (int what = 0; what < then.length; what++) {
            due("24 then count(" + what + ")", x.count(what), then[what]);
        }
        int[] trees = {1, 1, 1, 1, 3, 15, 105};
        int[] edges = {0, 0, 1, 3, 5, 7, 9};
        for (int copies = 0; copies <= 6; copies++) {
            StemmaTree y = Check.told("ma;".repeat(copies));
            due("24 trees of " + copies, y.count(2), trees[copies]);
            due("24 edges of " + copies, y.count(4), edges[copies]);
            due("24 copies " + copies, y.count(0), copies);
        }
    }
}
