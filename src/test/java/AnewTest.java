import java.util.Arrays;

/**
 * "(Read anew: as told, ..)": an object that was told of other copies ahead, more or fewer, and was asked all there is to
 * ask, answers as one that was told of these alone.
 */
public final class AnewTest {
    private static final Check CHECK = new Check();
    private static final String[] TEXTS = {
        "", "md;", "mabcdabcd;", "ma;mb;", "mad?b;mdab?;", "mab;mcd;m?a;", "md;ma;mb;mc;", "maaaabbbb;mbbbbaaaa;mabababab;mcdcdcdcd;",
        "mad;mbc;m?a;mdd;mab;", "maabbccdd;mabcdabcd;mddccbbaa;m?b?d?b?d;mcccccccc;", "ma;mb;mc;md;ma;mb;",
        "mabcdabcd;mbcdabcda;mcdabcdab;mdabcdabc;maabbccdd;mddccbbaa;", "m??;m??;m??;m??;m??;m??;"};

    public static void main(String[] args) {
        for (String ahead : TEXTS) {
            for (String text : TEXTS) {
                StemmaTree x = Check.told(ahead);
                Asked.questions(x);
                Check.type(x, text);
                x.copies();
                CHECK.isTrue("'" + text + "' behind '" + ahead + "'", sameAnswers(x, Check.told(text)));
            }
        }
        CHECK.end();
    }

    private static boolean sameAnswers(StemmaTree x, StemmaTree fresh) {
        return Arrays.equals(Asked.questions(x), Asked.questions(fresh)) && Arrays.equals(Asked.counts(x), Asked.counts(fresh))
                && Arrays.equals(Asked.readings(x), Asked.readings(fresh));
    }
}
