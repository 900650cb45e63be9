/** The document's sentences on THE TEXT and on what it tells that name an edge: one test for each, the sentence ahead. */
public final class TextEdgeTest {
    private static final int BAD = -1, STATE = -2, FULL = -3, NONE = -9;
    private static final Check CHECK = new Check();
    private static final String SIX = "ma;ma;ma;ma;ma;ma;", WIDE = "mabcdabcd;";

    public static void main(String[] args) {
        sixCopiesAtMost();
        eightPlacesAtMost();
        readingsAreFourOrLost();
        ninetyLettersAtMost();
        blanksBetweenTokens();
        eachItemIsEnded();
        asManyAsCopy0Has();
        tokensThatCannotStand();
        everyLetterEverywhere();
        theFirstFaultCounts();
        endsTooEarly();
        aNewObjectHasNoCopies();
        aLetterIs0To255();
        clearingAnEmptyAndAFullText();
        tellingEmptiesTheText();
        anEmptyTextTellsOfNoCopies();
        aFaultChangesNothing();
        readAnew();
        readAnewWithFewerCopies();
        the512thCall();
        CHECK.end();
    }

    private static void due(String call, long got, long want) {
        CHECK.due(call, got, want);
    }

    private static void faultAt(String text, int place) {
        due("FAULT of '" + text + "'", Check.fault(text), -10 - place);
    }

    private static void tells(String text, int items) {
        due("items of '" + text + "'", Check.fault(text), items);
    }

    /** "COPIES 0, 1, .. (6 at most)" */
    private static void sixCopiesAtMost() {
        StemmaTree x = Check.told(SIX);
        due("six copies", x.count(0), 6);
        due("the last copy", x.reading(5, 0), 0);
        due("one behind it", x.reading(6, 0), BAD);
        due("one ahead of all", x.reading(-1, 0), BAD);
        for (int copies = 0; copies <= 6; copies++) {
            tells("mb;".repeat(copies), copies);
        }
        faultAt(SIX + "mb;", 18);
    }

    /** "PLACES 0, 1, .. (as many as READINGS of COPY 0; 8 at most)" */
    private static void eightPlacesAtMost() {
        for (int places = 1; places <= 8; places++) {
            StemmaTree x = Check.told("m" + "c".repeat(places) + ";");
            due("places " + places, x.count(1), places);
            due("the last place of " + places, x.reading(0, places - 1), 2);
            due("one behind the last of " + places, x.reading(0, places), BAD);
        }
        for (char ninth : "abcd?".toCharArray()) {
            faultAt("mabcdabcd" + ninth + ";", 9);
            faultAt("m????????" + ninth, 9);
        }
    }

    /** "at each PLACE a COPY has a READING (a .. d: 0 to 3), or it is LOST" */
    private static void readingsAreFourOrLost() {
        StemmaTree x = Check.told("mabcd?;");
        for (int place = 0; place < 4; place++) {
            due("reading at " + place, x.reading(0, place), place);
        }
        due("lost", x.reading(0, 4), NONE);
        faultAt("m`;", 1);
        faultAt("me;", 1);
        faultAt("mA;", 1);
        faultAt("m@;", 1);
        faultAt("m>;", 1);
    }

    /** "a text (90 letters at most)"; "FULL: 90" */
    private static void ninetyLettersAtMost() {
        String most = " ".repeat(30) + WIDE.repeat(6);
        StemmaTree x = new StemmaTree();
        for (int i = 0; i < 90; i++) {
            due("letter " + i, x.type(most.charAt(i)), i + 1);
        }
        due("one too many", x.type(';'), FULL);
        due("once more", x.type(' '), FULL);
        due("letters", x.count(8), 90);
        due("what stood there is told", x.copies(), 6);
        due("the last reading", x.reading(5, 7), 3);
        due("there is room again", x.type('m'), 1);
        faultAt(" ".repeat(89) + "x", 89);
        faultAt(" ".repeat(89) + "m", 90);
    }

    /** "blanks (32) between TOKENS" */
    private static void blanksBetweenTokens() {
        tells("mab;mb?;", 2);
        tells("  m  a  b  ;  m  b  ?  ;  ", 2);
        tells(" ".repeat(90), 0);
        tells(" mab;", 1);
        tells("mab; ", 1);
        StemmaTree x = Check.told(" m  a b;m c   d ; ");
        due("a blank is no place", x.count(1), 2);
        due("behind blanks", x.reading(1, 1), 3);
        int[] noBlanks = {0, 9, 10, 11, 12, 13, 31, 33, 95, 160, 255};
        for (int letter : noBlanks) {
            faultAt("ma" + (char) letter + ";", 2);
        }
    }

    /** "ITEMS, each ended by ;" */
    private static void eachItemIsEnded() {
        tells("ma;", 1);
        faultAt("ma", 2);
        faultAt("ma;mb", 5);
        faultAt("mamb;", 2);
        faultAt("ma;;", 3);
        faultAt(";", 0);
        faultAt("ma;b;", 3);
    }

    /** "m and READINGS (the next COPY; as many as COPY 0 has, 1 to 8)" */
    private static void asManyAsCopy0Has() {
        faultAt("m;", 1);
        tells("m?;", 1);
        tells(WIDE, 1);
        for (int places = 1; places <= 8; places++) {
            String first = "m" + "a".repeat(places) + ";";
            tells(first + "m" + "?".repeat(places) + ";", 2);
            faultAt(first + "m" + "b".repeat(places - 1) + ";", 2 * places + 2);
            faultAt(first + "m" + "b".repeat(places + 1) + ";", 2 * places + 3);
        }
        faultAt("mab;".repeat(5) + "ma;", 22);
        faultAt("mab;".repeat(5) + "mabc;", 23);
        StemmaTree x = Check.told("mab;mcd;m?a;");
        due("the next copy", x.reading(1, 0), 2);
        due("and the next", x.reading(2, 1), 0);
    }

    /** "that can't stand there (a seventh m, a READING too many (a ninth of COPY 0), ; behind too few)" */
    private static void tokensThatCannotStand() {
        faultAt(SIX + "m", 18);
        faultAt(SIX + "   m", 21);
        faultAt("mabcdabcda", 9);
        faultAt("mabcdabcd  a", 11);
        faultAt("mab;mab  c;", 9);
        faultAt("mab;ma  ;", 8);
        faultAt("m  ;", 3);
        faultAt("mab;m  ;", 7);
        faultAt("mm", 1);
        faultAt("ma m;", 3);
        faultAt("a", 0);
        faultAt("?", 0);
        faultAt(SIX + "a", 18);
        faultAt(SIX + ";", 18);
    }

    /** "TOKENS are the letters m, a .. d, ? (LOST), ;" and "of any other letter, that letter's" */
    private static void everyLetterEverywhere() {
        everyLetterBehind("", "m", "", 0);
        everyLetterBehind("m", "abcd?", "", 0);
        everyLetterBehind("ma", "abcd?", ";", 1);
        everyLetterBehind("ma;", "m", "", 1);
        everyLetterBehind("ma;m", "abcd?", "", 0);
        everyLetterBehind("ma;mb", "", ";", 2);
        everyLetterBehind(SIX, "", "", 6);
    }

    /** Letters that go on leave the text unended; a blank leaves it as ended as it was. */
    private static void everyLetterBehind(String ahead, String goOn, String end, int items) {
        boolean ended = ahead.isEmpty() || ahead.endsWith(";");
        for (int letter = 0; letter < 256; letter++) {
            int want = -10 - ahead.length();
            if (goOn.indexOf(letter) >= 0 || letter == ' ' && !ended) {
                want = -10 - ahead.length() - 1;
            } else if (end.indexOf(letter) >= 0 || letter == ' ') {
                want = items;
            }
            due("'" + ahead + "' and letter " + letter, Check.fault(ahead + (char) letter), want);
        }
    }

    /** "FAULT: the place of the first letter of the first TOKEN that can't stand there" */
    private static void theFirstFaultCounts() {
        faultAt("x;m", 0);
        faultAt("ma;;x", 3);
        faultAt("max;;", 2);
        faultAt("mab;ma;mabc;x", 6);
        faultAt("mab;mabc;ma;x", 7);
        faultAt(SIX + "m x", 18);
        faultAt("m;", 1);
        faultAt("ma;mx", 4);
    }

    /** "the text's length, if it ends too early" */
    private static void endsTooEarly() {
        faultAt("m", 1);
        faultAt("m   ", 4);
        faultAt("   m", 4);
        faultAt("ma", 2);
        faultAt("mabcdabcd", 9);
        faultAt("mab;m", 5);
        faultAt("mab;ma", 6);
        faultAt("mab;mab ", 8);
        faultAt("ma" + " ".repeat(88), 90);
    }

    /** "StemmaTree(): No COPIES." */
    private static void aNewObjectHasNoCopies() {
        StemmaTree x = new StemmaTree();
        due("copies", x.count(0), 0);
        due("places", x.count(1), 0);
        due("letters", x.count(8), 0);
        due("no reading", x.reading(0, 0), BAD);
        due("nothing is done", x.undo(), STATE);
        due("no image 0", x.back(0), STATE);
        due("no image 1", x.back(1), STATE);
        due("nothing is seen", x.forget(), 0);
        due("nothing to clear", x.clear(), 0);
        StemmaTree other = Check.told(SIX);
        other.chooses(7);
        due("objects are apart", new StemmaTree().count(3), 0);
    }

    /** "A letter (0 .. 255) comes to THE TEXT: how many it has. BAD" */
    private static void aLetterIs0To255() {
        StemmaTree x = new StemmaTree();
        int[] wrong = {-1, 256, -256, 257, 256 + 'm', -256 + 'm', 65536 + 'm', Integer.MIN_VALUE, Integer.MAX_VALUE};
        for (int letter : wrong) {
            due("letter " + letter, x.type(letter), BAD);
            due("no letter by " + letter, x.count(8), 0);
        }
        due("the lowest", x.type(0), 1);
        due("the highest", x.type(255), 2);
    }

    /** "THE TEXT is empty: how many letters it had." */
    private static void clearingAnEmptyAndAFullText() {
        StemmaTree x = new StemmaTree();
        due("empty", x.clear(), 0);
        Check.type(x, "x".repeat(90));
        due("full", x.clear(), 90);
        due("empty now", x.clear(), 0);
        due("letters come again", x.type('m'), 1);
        Check.type(x, "a;");
        due("the old ones are gone", x.copies(), 1);
        Check.type(x, "mb;");
        x.clear();
        due("copies stay", x.reading(0, 0), 0);
    }

    /** "THE TEXT tells all anew, and is empty then: how many ITEMS." */
    private static void tellingEmptiesTheText() {
        StemmaTree x = new StemmaTree();
        Check.type(x, "mab;mba;");
        due("items", x.copies(), 2);
        due("empty then", x.count(8), 0);
        due("nothing to clear", x.clear(), 0);
        due("letters count from 1", x.type(' '), 1);
    }

    /** "how many ITEMS", of a text that has none */
    private static void anEmptyTextTellsOfNoCopies() {
        StemmaTree x = Check.told("mab;mba;");
        x.sees(1);
        x.keep(0);
        x.reads(0, 0, 4);
        due("no items", x.copies(), 0);
        int[] counts = {0, 0, 1, 0, 0, 0, 0, 0, 0, 0};
        for (int what = 0; what < 10; what++) {
            due("count(" + what + ") of an empty text", x.count(what), counts[what]);
        }
        due("no image", x.back(0), STATE);
        Check.type(x, "   ");
        due("blanks alone", x.copies(), 0);
        due("are used up, too", x.count(8), 0);
    }

    /** "-10 less FAULT: nothing changes." */
    private static void aFaultChangesNothing() {
        StemmaTree x = Check.told("ma?;mb?;mab;mba;");
        x.keep(1);
        x.chooses(2);
        x.reads(0, 1, 3);
        x.sees(2);
        int[] before = new int[10];
        Check.type(x, "mc;md;m;");
        for (int what = 0; what < 10; what++) {
            before[what] = x.count(what);
        }
        due("the fault", x.copies(), -17);
        due("the same fault again", x.copies(), -17);
        for (int what = 0; what < 10; what++) {
            due("count(" + what + ") behind a fault", x.count(what), before[what]);
        }
        due("a reading of copy 0", x.reading(0, 0), 0);
        due("a reading of copy 1", x.reading(1, 0), 1);
        due("what was read", x.reading(0, 1), 3);
        due("undone", x.undo(), 1);
        due("read back", x.reading(0, 1), NONE);
        due("undone, too", x.undo(), 0);
        due("THE TREE back", x.count(3), 0);
        x.chooses(1);
        due("the image", x.back(1), 4);
        due("THE TREE of the image", x.count(3), 0);
        due("the text goes on", x.type(' '), 9);
        due("and has its fault", x.copies(), -17);
    }

    /** "(Read anew: as told, THE TREE is 0, nothing can be UNDONE, nothing SEEN, IMAGES are gone.)" */
    private static void readAnew() {
        StemmaTree x = Check.told("ma?;mb?;mab;mba;");
        x.keep(0);
        x.keep(1);
        x.chooses(2);
        x.reads(0, 1, 3);
        x.sees(2);
        due("counted ahead", x.best(0), 3);
        Check.type(x, "ma?;mb?;mab;mba;");
        due("told anew", x.copies(), 4);
        due("as told", x.reading(0, 1), NONE);
        due("THE TREE is 0", x.count(3), 0);
        due("nothing may be undone", x.count(9), 0);
        due("nothing is undone", x.undo(), STATE);
        due("nothing seen", x.count(7), 0);
        due("nothing to forget", x.forget(), 0);
        due("image 0 is gone", x.back(0), STATE);
        due("image 1 is gone", x.back(1), STATE);
        due("counted anew", x.best(0), 2);
        due("the best tree anew", x.rank(0), 1);
        Check.type(x, "mc;");
        x.copies();
        due("fewer copies", x.reading(1, 0), BAD);
        due("fewer places", x.reading(0, 1), BAD);
    }

    /** The same, where the trees had more edges ahead: nothing of those is left */
    private static void readAnewWithFewerCopies() {
        StemmaTree x = Check.told("ma;mb;mc;md;ma;mb;");
        due("six copies", x.changes(104, -1), 4);
        Check.type(x, "ma;ma;mb;mb;");
        x.copies();
        due("four copies, tree 0", x.changes(0, -1), 2);
        due("four copies, tree 2", x.changes(2, -1), 1);
        due("four copies, directed", x.directed(2, 0), 1);
        Check.type(x, "md;ma;");
        x.copies();
        due("two copies", x.changes(0, -1), 1);
        Check.type(x, "m?;");
        x.copies();
        due("one copy", x.changes(0, -1), 0);
        due("one copy, at its place", x.changes(0, 0), 0);
        due("one copy, fitting", x.fitting(0, 0), 15);
        due("one copy, no root", x.root(0), NONE);
        due("one copy, fewest", x.best(0), 0);
        x.copies();
        due("no copies", x.changes(0, -1), 0);
        due("no copies, fewest", x.best(0), 0);
        due("no copies, none unseen", x.unseen(), 0);
    }

    /** "An object is used for at most 512 calls after it has been made": the last ones are answered as the first ones */
    private static void the512thCall() {
        StemmaTree x = Check.told(WIDE.repeat(6));
        for (int call = 62; call < 512; call += 2) {
            int reading = call % 4 == 2 ? 4 : 0;
            due("reads, call " + call, x.reads(0, 0, reading), 4 - reading);
            due("best, call " + (call + 1), x.best(1), 105);
        }
        due("the last call", x.count(9), 10);
        StemmaTree y = new StemmaTree();
        for (int call = 1; call < 512; call++) {
            due("type, call " + call, y.type('m'), call <= 90 ? call : FULL);
        }
        due("the last fault", y.copies(), -11);
    }
}
