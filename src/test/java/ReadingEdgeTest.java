/** The document's sentences on readings, images and counts that name an edge: one test for each, the sentence ahead. */
public final class ReadingEdgeTest {
    private static final int BAD = -1, STATE = -2, FULL = -3, NONE = -9;
    private static final int[] FAR = {-1, -9, 9, 100, Integer.MIN_VALUE, Integer.MAX_VALUE};
    private static final Check CHECK = new Check();

    public static void main(String[] args) {
        fittingOfALostOne();
        fittingGoesByTheTree();
        fittingOfWhatIsNotThere();
        quarrelInAllFourWays();
        quarrelOfAnyTwoReadings();
        quarrelOfCopiesThatTellBoth();
        quarrelOfTheSamePlace();
        sharedWithItself();
        sharedOfALostOne();
        mixedGoesOverFrom1On();
        mixedOfTwoUnlikeOthers();
        mixedWithLostOnes();
        mixedOfSeveralTheLeast();
        mixedWithTooFew();
        mixedOfWhatIsNotThere();
        plainByOneOther();
        sixSeenAtMost();
        seenFrom0To6();
        forgetting();
        unseenOfToldOnes();
        unseenByOneOtherReading();
        unseenAtPlace0ByTheTree();
        unseenWithNothing();
        imagesAre0And1();
        imagesKeepReadingsAndTheTree();
        imagesKeepNothingElse();
        nothingIsUndoneBehindBack();
        countsOfNothingAndOfAll();
        countsOfQuarrels();
        CHECK.end();
    }

    private static void due(String call, long got, long want) {
        CHECK.due(call, got, want);
    }

    private static void mixedIs(String text, int copy, int unlikes, int p, int q, int c) {
        StemmaTree x = Check.told(text);
        int[] want = {unlikes, p, q, c};
        for (int what = 0; what < 4; what++) {
            due("mixed(" + copy + ", " + what + ") of " + text, x.mixed(copy, what), want[what]);
        }
    }

    /** "READINGS (bits) that it may be told to have so that CHANGES of THE TREE are no more" */
    private static void fittingOfALostOne() {
        due("one copy: all four", Check.told("m?;").fitting(0, 0), 15);
        due("all lost: all four", Check.told("m?;m?;m?;m?;m?;m?;").fitting(5, 0), 15);
        due("two copies: the other's", Check.told("m?;md;").fitting(0, 0), 8);
        due("like ones: theirs alone", Check.told("mb;mb;m?;mb;").fitting(2, 0), 2);
        due("between two: either", Check.told("ma;mc;m?;").fitting(2, 0), 5);
        due("among all four", Check.told("ma;mb;mc;md;m?;").fitting(4, 0), 15);
        due("only that place counts", Check.told("mab;mab;m?d;").fitting(2, 0), 1);
    }

    /** "CHANGES of THE TREE" */
    private static void fittingGoesByTheTree() {
        StemmaTree x = Check.told("ma;mb;mb;m?;");
        due("by a, and the others b", x.fitting(3, 0), 3);
        x.chooses(1);
        due("by b", x.fitting(3, 0), 2);
        x.chooses(2);
        due("by the other b", x.fitting(3, 0), 2);
    }

    /** "NONE: it is not LOST. BAD." */
    private static void fittingOfWhatIsNotThere() {
        StemmaTree x = Check.told("ma?;mb?;");
        due("not lost", x.fitting(0, 0), NONE);
        x.reads(0, 0, 4);
        due("lost now", x.fitting(0, 0), 2);
        x.undo();
        due("not lost again", x.fitting(0, 0), NONE);
        for (int wrong : FAR) {
            due("copy " + wrong, x.fitting(wrong, 1), BAD);
            due("place " + wrong, x.fitting(0, wrong), BAD);
        }
        due("the copy behind the last", x.fitting(2, 1), BAD);
        due("the place behind the last", x.fitting(0, 2), BAD);
        due("without copies", new StemmaTree().fitting(0, 0), BAD);
    }

    /** "some two READINGS of the one, some two of the other are told by COPIES .. in all four ways" */
    private static void quarrelInAllFourWays() {
        String[] ways = {"maa;", "mab;", "mba;", "mbb;"};
        due("all four", Check.told(String.join("", ways)).quarrel(0, 1), 1);
        for (int missing = 0; missing < 4; missing++) {
            StringBuilder text = new StringBuilder();
            for (int way = 0; way < 4; way++) {
                text.append(ways[way == missing ? (way + 1) % 4 : way]);
            }
            due("without way " + missing, Check.told(text.toString()).quarrel(0, 1), 0);
        }
        due("a and d, b and c", Check.told("mab;mac;mdb;mdc;").quarrel(0, 1), 1);
        due("three copies", Check.told("maa;mab;mba;").quarrel(0, 1), 0);
        due("five ways, but no four of two and two", Check.told("maa;mab;mbb;mbc;mcc;").quarrel(0, 1), 0);
        due("six ways around", Check.told("maa;mab;mbb;mbc;mcc;mca;").quarrel(0, 1), 0);
        due("no copies' way but one", Check.told("maa;").quarrel(0, 1), 0);
    }

    /** "some two READINGS of the one, some two of the other": whichever they are, the lowest and the highest, too */
    private static void quarrelOfAnyTwoReadings() {
        for (int twos = 0; twos < 256; twos++) {
            char r = letter(twos & 3), s = letter(twos >> 2 & 3), t = letter(twos >> 4 & 3), u = letter(twos >> 6);
            String three = "m" + r + t + ";m" + r + u + ";m" + s + t + ";";
            int want = r != s && t != u ? 1 : 0;
            due("quarrel of " + r + s + " and " + t + u, Check.told(three + "m" + s + u + ";").quarrel(0, 1), want);
            due("three ways of " + r + s + " and " + t + u, Check.told(three).quarrel(0, 1), 0);
        }
    }

    private static char letter(int reading) {
        return (char) ('a' + reading);
    }

    /** "told by COPIES (that tell both)" */
    private static void quarrelOfCopiesThatTellBoth() {
        due("the first is lost", Check.told("maa;mab;mba;m?b;").quarrel(0, 1), 0);
        due("the second is lost", Check.told("maa;mab;mba;mb?;").quarrel(0, 1), 0);
        due("lost ones are no reading", Check.told("ma?;mab;mb?;mbb;").quarrel(0, 1), 0);
        due("lost ones are no reading of the first", Check.told("m?a;m?b;mba;mbb;").quarrel(0, 1), 0);
        due("a lost one is not the next one's first", Check.told("maa;mab;mbb;ma?;").quarrel(0, 1), 0);
        due("nor so the other way round", Check.told("maa;mba;mbb;m?a;").quarrel(0, 1), 0);
        due("others tell all", Check.told("maa;mab;mba;m?b;mbb;mb?;").quarrel(0, 1), 1);
        StemmaTree x = Check.told("maa;mab;mba;mbb;");
        x.reads(2, 1, 4);
        due("lost since", x.quarrel(0, 1), 0);
        x.undo();
        due("and back", x.quarrel(0, 1), 1);
    }

    /** "QUARREL (1, 0). BAD (the same PLACE, too)." */
    private static void quarrelOfTheSamePlace() {
        StemmaTree x = Check.told("maa;mab;mba;mbb;");
        due("the same", x.quarrel(0, 0), BAD);
        due("the same last", x.quarrel(1, 1), BAD);
        due("either way round", x.quarrel(1, 0), 1);
        due("behind the last", x.quarrel(0, 2), BAD);
        due("first behind the last", x.quarrel(2, 0), BAD);
        for (int wrong : FAR) {
            due("first " + wrong, x.quarrel(wrong, 0), BAD);
            due("second " + wrong, x.quarrel(0, wrong), BAD);
            due("both " + wrong, x.quarrel(wrong, wrong), BAD);
        }
        due("one place", Check.told("ma;mb;").quarrel(0, 0), BAD);
        due("no place", new StemmaTree().quarrel(0, 1), BAD);
    }

    /** "COPIES (bits, itself, too) with its READING there" */
    private static void sharedWithItself() {
        due("alone", Check.told("ma;mb;mc;").shared(0, 1), 2);
        due("one copy", Check.told("md;").shared(0, 0), 1);
        due("all six", Check.told("ma;ma;ma;ma;ma;ma;").shared(0, 3), 63);
        due("the first and the last", Check.told("mab;mcb;mcb;mcb;mcb;mab;").shared(0, 5), 33);
        due("at another place", Check.told("mab;mcb;mcb;mcb;mcb;mab;").shared(1, 5), 63);
    }

    /** "(0: it is LOST)"; "SHARED (bits). BAD." */
    private static void sharedOfALostOne() {
        StemmaTree x = Check.told("ma??;m???;ma?b;");
        due("lost", x.shared(0, 1), 0);
        due("all lost there", x.shared(1, 0), 0);
        due("lost ones share with none", x.shared(0, 0), 5);
        due("the first number is the place", x.shared(2, 2), 4);
        due("place behind the last", x.shared(3, 0), BAD);
        due("copy behind the last", x.shared(0, 3), BAD);
        for (int wrong : FAR) {
            due("place " + wrong, x.shared(wrong, 0), BAD);
            due("copy " + wrong, x.shared(0, wrong), BAD);
        }
        due("without copies", new StemmaTree().shared(0, 0), BAD);
        due("more places than copies", Check.told("mabc;").shared(2, 0), 1);
        due("no copy 2", Check.told("mabc;").shared(0, 2), BAD);
    }

    /** "a PLACE c (1 on): it is unlike p at PLACES ahead of c, unlike q from c on" */
    private static void mixedGoesOverFrom1On() {
        mixedIs("maaaaaaaa;mabbbbbbb;mbaaaaaaa;", 0, 0, 1, 2, 1);
        mixedIs("maaaaaaaa;maaaaaaab;mbbbbbbba;", 0, 0, 1, 2, 7);
        mixedIs("maa;mab;mba;", 0, 0, 1, 2, 1);
        mixedIs("maaa;maaa;mbbb;", 0, 1, 1, 2, 2);
        mixedIs("maaa;mbbb;maaa;", 0, 1, 1, 2, 1);
        mixedIs("maaaa;mbbaa;maabb;", 0, 0, 2, 1, 2);
    }

    /** "two unlike others, p first, q second" */
    private static void mixedOfTwoUnlikeOthers() {
        mixedIs("maa;maa;mbb;", 1, 1, 0, 2, 1);
        mixedIs("mbb;maa;maa;", 1, 1, 0, 2, 1);
        mixedIs("mbb;mbb;maa;", 2, 2, 0, 1, 1);
        mixedIs("maaaaaaaa;mbbbbbbbb;mbbbbbbbb;", 0, 8, 1, 2, 1);
        mixedIs("mab;maa;mbb;mcc;", 0, 0, 1, 2, 1);
        mixedIs("mccbb;maacc;maabb;", 2, 0, 1, 0, 2);
        mixedIs("maacc;mccbb;maabb;", 2, 0, 0, 1, 2);
        mixedIs("mccbb;maabb;mdddd;maacc;", 1, 0, 3, 0, 2);
    }

    /** "(LOST ones are like all)" */
    private static void mixedWithLostOnes() {
        mixedIs("maa;m??;mbb;", 0, 1, 1, 2, 1);
        mixedIs("m??;mab;mcd;", 0, 0, 1, 2, 1);
        mixedIs("maab;mb?b;m?ac;", 0, 0, 2, 1, 1);
        due("plain, lost ones", Check.told("maab;mb?b;m?cc;").mixed(0, 4), 1);
        due("plain, all lost", Check.told("maab;m???;mccc;").mixed(0, 4), 0);
        due("plain, itself lost", Check.told("m???;mabc;mccc;").mixed(0, 4), 0);
    }

    /** "(of several the least p, then q, then c)" */
    private static void mixedOfSeveralTheLeast() {
        mixedIs("mabc;mabc;mabc;mabc;", 0, 0, 1, 2, 1);
        mixedIs("mabc;mabc;mabc;mabc;", 1, 0, 0, 2, 1);
        mixedIs("mabc;mabc;mabc;mabc;", 3, 0, 0, 1, 1);
        mixedIs("maaaa;maabb;mccaa;mccaa;", 0, 0, 1, 2, 2);
        mixedIs("maaaa;maaab;mccaa;mccaa;", 0, 0, 1, 2, 2);
        mixedIs("maaaa;maaab;mccca;mccaa;", 0, 0, 1, 2, 3);
        mixedIs("maaaa;mcccc;maaab;maaab;mccca;", 0, 0, 2, 4, 3);
        mixedIs("maaaa;mccaa;mcaaa;maacc;maccc;", 0, 0, 3, 1, 2);
    }

    /** "NONE: fewer than three COPIES (4: fewer than two), fewer than two PLACES (4: not so)." */
    private static void mixedWithTooFew() {
        for (int what = 0; what < 4; what++) {
            due("one copy, " + what, Check.told("mabc;").mixed(0, what), NONE);
            due("two copies, " + what, Check.told("mabc;mabc;").mixed(1, what), NONE);
            due("one place, " + what, Check.told("ma;ma;ma;").mixed(2, what), NONE);
            due("one copy and place, " + what, Check.told("ma;").mixed(0, what), NONE);
        }
        due("three copies, two places", Check.told("mab;mab;mab;").mixed(0, 0), 0);
        due("plain of one copy", Check.told("mabc;").mixed(0, 4), NONE);
        due("plain of one copy and place", Check.told("ma;").mixed(0, 4), NONE);
        due("plain of two copies", Check.told("mabc;mabd;").mixed(1, 4), 1);
        due("plain at one place", Check.told("ma;mb;").mixed(0, 4), 1);
    }

    /** "BAD" of mixed */
    private static void mixedOfWhatIsNotThere() {
        StemmaTree x = Check.told("mab;mab;mab;");
        due("copy behind the last", x.mixed(3, 0), BAD);
        due("what behind the last", x.mixed(0, 5), BAD);
        for (int wrong : FAR) {
            due("copy " + wrong, x.mixed(wrong, 0), BAD);
            due("copy " + wrong + ", plain", x.mixed(wrong, 4), BAD);
            due("what " + wrong, x.mixed(0, wrong), BAD);
        }
        due("BAD ahead of NONE", Check.told("ma;").mixed(0, 5), BAD);
        due("BAD ahead of NONE, copy", Check.told("ma;").mixed(1, 0), BAD);
        due("without copies", new StemmaTree().mixed(0, 4), BAD);
    }

    /** "PLAIN: the fewest unlikes of one other COPY at all PLACES" */
    private static void plainByOneOther() {
        due("all unlike", Check.told("maaaaaaaa;mbbbbbbbb;mcccccccc;").mixed(1, 4), 8);
        due("not itself", Check.told("mab;mcd;").mixed(0, 4), 2);
        due("the nearest", Check.told("mabcd;mabca;mabaa;").mixed(0, 4), 1);
        due("the nearest ahead of it", Check.told("mabaa;mabca;mabcd;").mixed(2, 4), 1);
        due("the last place counts", Check.told("mab;mac;").mixed(0, 4), 1);
        due("the first place counts", Check.told("mab;mcb;").mixed(0, 4), 1);
    }

    /** "SEEN (6 at most)"; "FULL: 6" */
    private static void sixSeenAtMost() {
        StemmaTree x = Check.told("ma;mb;");
        for (int i = 1; i <= 6; i++) {
            due("seen " + i, x.sees(1), i);
        }
        due("a seventh", x.sees(1), FULL);
        due("six still", x.count(7), 6);
        due("what is seen still holds", x.unseen(), 3);
        due("forgotten", x.forget(), 6);
        due("there is room again", x.sees(0), 1);
    }

    /** "BAD (n 0 .. 6)" */
    private static void seenFrom0To6() {
        for (int n = 0; n <= 6; n++) {
            StemmaTree x = Check.told("ma;mb;");
            due("sees " + n, x.sees(n), 1);
            due("unseen by " + n, x.unseen(), n < 2 ? 3 : 0);
        }
        StemmaTree x = Check.told("ma;mb;");
        for (int wrong : new int[] {-1, 7, 8, Integer.MIN_VALUE, Integer.MAX_VALUE}) {
            due("sees " + wrong, x.sees(wrong), BAD);
        }
        due("nothing seen", x.count(7), 0);
        due("without copies", new StemmaTree().sees(6), 1);
    }

    /** "Nothing is SEEN: how much was." */
    private static void forgetting() {
        StemmaTree x = Check.told("ma;mb;");
        due("nothing was", x.forget(), 0);
        x.sees(6);
        x.sees(7);
        due("one was", x.forget(), 1);
        due("nothing is", x.count(7), 0);
        due("nothing stands against any", x.unseen(), 3);
        due("nothing was, again", x.forget(), 0);
    }

    /** "another READING at PLACE 0 than it has (told ones)" */
    private static void unseenOfToldOnes() {
        due("nothing seen: all told ones", Check.told("ma;m?;mb;m?;mc;md;").unseen(), 53);
        due("all lost", Check.told("m?a;m?b;").unseen(), 0);
        StemmaTree x = Check.told("ma;m?;ma;");
        x.sees(0);
        due("with its own reading it would be so", x.unseen(), 0);
        x.forget();
        x.sees(1);
        due("a lost one is none of them", x.unseen(), 5);
        StemmaTree four = Check.told("ma;mb;mc;md;");
        four.sees(2);
        due("another of the four", four.unseen(), 15);
        four.forget();
        four.sees(3);
        due("there is no fifth reading", four.unseen(), 0);
        StemmaTree odd = Check.told("ma;ma;md;");
        odd.sees(0);
        due("the odd one with the others' reading", odd.unseen(), 4);
    }

    /** "COPIES (bits) for which by some other READING all that was SEEN is so" */
    private static void unseenByOneOtherReading() {
        StemmaTree x = Check.told("ma;ma;mb;");
        x.sees(1);
        due("one change", x.unseen(), 7);
        x.sees(2);
        due("one and two: by no one reading", x.unseen(), 0);
        x.forget();
        x.sees(2);
        x.sees(2);
        due("two, twice: by a third reading", x.unseen(), 3);
        x.forget();
        x.sees(0);
        due("none", x.unseen(), 4);
        x.forget();
        x.sees(3);
        due("more than can be", x.unseen(), 0);
    }

    /** "CHANGES of THE TREE at PLACE 0 would be n" */
    private static void unseenAtPlace0ByTheTree() {
        StemmaTree x = Check.told("maa;mba;maa;mba;");
        x.sees(1);
        due("tree 0: any copy with the other reading", x.unseen(), 15);
        x.chooses(1);
        x.forget();
        x.sees(2);
        due("tree 1: any copy with a third one", x.unseen(), 15);
        x.reads(0, 1, 1);
        due("place 1 is not asked", x.unseen(), 15);
        x.reads(0, 0, 4);
        due("place 0 is: copies 1 and 3 with a third one", x.unseen(), 10);
        due("and nothing is changed", x.reading(1, 0), 1);
    }

    /** "UNSEEN (bits)" of one copy, and of none */
    private static void unseenWithNothing() {
        StemmaTree none = new StemmaTree();
        due("no copies", none.unseen(), 0);
        none.sees(0);
        due("no copies, something seen", none.unseen(), 0);
        StemmaTree one = Check.told("md;");
        due("one copy", one.unseen(), 1);
        one.sees(0);
        due("one copy never changes", one.unseen(), 1);
        one.sees(1);
        due("one copy can't change once", one.unseen(), 0);
    }

    /** "IMAGES 0, 1"; "BAD; STATE: none was kept." */
    private static void imagesAre0And1() {
        StemmaTree x = Check.told("ma;mb;");
        for (int wrong : new int[] {-1, 2, 3, Integer.MIN_VALUE, Integer.MAX_VALUE}) {
            due("keep " + wrong, x.keep(wrong), BAD);
            due("back " + wrong, x.back(wrong), BAD);
        }
        due("none was kept", x.back(0), STATE);
        due("nor the other", x.back(1), STATE);
        due("keep 1", x.keep(1), 2);
        due("0 was not", x.back(0), STATE);
        due("back 1", x.back(1), 2);
        due("keep 0", x.keep(0), 2);
        due("back 0", x.back(0), 2);
        due("no such image, though some were kept", x.back(2), BAD);
        StemmaTree none = new StemmaTree();
        due("no copies to keep", none.keep(0), 0);
        due("no copies back", none.back(0), 0);
        due("none in the other", none.back(1), STATE);
    }

    /** "keep READINGS, THE TREE"; "All of that becomes as an IMAGE has it: COPIES." */
    private static void imagesKeepReadingsAndTheTree() {
        StemmaTree x = Check.told("mabcdabcd;mabcdabcd;mabcdabcd;mabcdabcd;mabcdabcd;mabcdabc?;");
        x.chooses(104);
        due("kept", x.keep(0), 6);
        x.reads(5, 7, 0);
        x.reads(0, 0, 4);
        x.chooses(3);
        due("kept, too", x.keep(1), 6);
        x.reads(3, 3, 1);
        x.chooses(0);
        due("back to 0", x.back(0), 6);
        due("THE TREE of 0", x.count(3), 104);
        due("the first reading of 0", x.reading(0, 0), 0);
        due("one between of 0", x.reading(3, 3), 3);
        due("the last reading of 0", x.reading(5, 7), NONE);
        due("back to 1", x.back(1), 6);
        due("THE TREE of 1", x.count(3), 3);
        due("the first reading of 1", x.reading(0, 0), NONE);
        due("the last reading of 1", x.reading(5, 7), 0);
        due("counted anew", x.best(0), 1);
        x.reads(0, 0, 3);
        x.chooses(9);
        due("an image stays as it is", x.back(1), 6);
        due("its reading", x.reading(0, 0), NONE);
        due("its tree", x.count(3), 3);
        x.chooses(10);
        due("kept over the old one", x.keep(0), 6);
        x.chooses(11);
        x.back(0);
        due("the newer tree", x.count(3), 10);
    }

    /** "nothing else" */
    private static void imagesKeepNothingElse() {
        StemmaTree x = Check.told("ma;mb;");
        x.sees(1);
        Check.type(x, "mcd");
        x.keep(0);
        x.forget();
        x.sees(0);
        x.sees(0);
        Check.type(x, ";");
        x.back(0);
        due("seen stays", x.count(7), 2);
        due("the text stays", x.count(8), 4);
        due("and is told", x.copies(), 1);
        due("as it stood", x.reading(0, 1), 3);
        StemmaTree y = Check.told("ma;mb;");
        y.keep(0);
        y.reads(0, 0, 2);
        y.keep(1);
        y.back(0);
        due("the other image stays", y.back(1), 2);
        due("as it was kept", y.reading(0, 0), 2);
    }

    /** "(nothing can be UNDONE behind back())" */
    private static void nothingIsUndoneBehindBack() {
        StemmaTree x = Check.told("ma;mb;ma;mb;");
        x.chooses(2);
        x.reads(0, 0, 3);
        x.keep(0);
        due("keeping leaves what may be undone", x.count(9), 2);
        x.back(1);
        due("a refused one does, too", x.count(9), 2);
        x.back(0);
        due("nothing may be", x.count(9), 0);
        due("nothing is", x.undo(), STATE);
        due("as the image has it", x.reading(0, 0), 3);
        x.reads(0, 0, 0);
        due("what comes behind it may be", x.undo(), 0);
        due("down to the image", x.reading(0, 0), 3);
    }

    /** "0 COPIES, 1 PLACES, 2 TREES, .. 9 how many may be UNDONE. BAD." */
    private static void countsOfNothingAndOfAll() {
        int[] none = {0, 0, 1, 0, 0, 0, 0, 0, 0, 0};
        StemmaTree x = new StemmaTree();
        for (int what = 0; what < 10; what++) {
            due("count(" + what + ") of a new object", x.count(what), none[what]);
        }
        Check.type(x, "m????????;".repeat(6));
        due("letters", x.count(8), 60);
        x.copies();
        for (int i = 0; i < 12; i++) {
            x.chooses(104 - i);
            x.sees(i % 7);
        }
        Check.type(x, " ".repeat(95));
        int[] all = {6, 8, 105, 93, 9, 48, 0, 6, 90, 10};
        for (int what = 0; what < 10; what++) {
            due("count(" + what + ") of all there can be", x.count(what), all[what]);
        }
        for (int wrong : new int[] {-1, 10, 11, Integer.MIN_VALUE, Integer.MAX_VALUE}) {
            due("count(" + wrong + ")", x.count(wrong), BAD);
        }
    }

    /** "6 how many twos of PLACES QUARREL"; any two partings of six copies into unlike threes do */
    private static void countsOfQuarrels() {
        due("one place", Check.told("ma;mb;").count(6), 0);
        due("two places in quarrel", Check.told("maa;mab;mba;mbb;").count(6), 1);
        due("three, each with each", Check.told("maaa;mabb;mbab;mbba;").count(6), 3);
        due("eight, each with each", Check.told(eightPartings()).count(6), 28);
        due("the first and the last", Check.told("macca;maccb;mbcca;mbccb;").count(6), 1);
    }

    private static String eightPartings() {
        int[][] withCopy0 = {{1, 2}, {1, 3}, {1, 4}, {1, 5}, {2, 3}, {2, 4}, {2, 5}, {3, 4}};
        StringBuilder text = new StringBuilder();
        for (int copy = 0; copy < 6; copy++) {
            text.append('m');
            for (int[] two : withCopy0) {
                text.append(copy == 0 || copy == two[0] || copy == two[1] ? 'a' : 'b');
            }
            text.append(';');
        }
        return text.toString();
    }
}
