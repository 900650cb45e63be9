import java.util.ArrayList;
import java.util.Arrays;
import java.util.List;
import java.util.function.Consumer;
import java.util.function.Function;

/**
 * "Refused, and nothing changes, the first of these: BAD .., STATE .., FULL." and "As things are NOW; nothing is changed."
 *
 * In states from empty to full each call that must be refused, and each that only asks, is made on an object; then all
 * that can be asked of it must be answered as by a twin that was not called.
 */
public final class RefusedTest {
    private static final int BAD = -1, STATE = -2, FULL = -3, NONE = -9;
    private static final int ANY = Integer.MIN_VALUE;
    private static final Check CHECK = new Check();

    /** Numbers that are far off, or that would wrap around onto another copy's cell. */
    private static final int[] FAR = {
        Integer.MIN_VALUE, Integer.MIN_VALUE + 1, -(1 << 30), -(1 << 29), -(1 << 28), -1000, -256, -105, -16, -10, -9, -8, -7,
        -3, -2, -1, 1 << 28, 1 << 29, (1 << 29) + 1, 1 << 30, Integer.MAX_VALUE - 1, Integer.MAX_VALUE};

    private record State(String name, Consumer<StemmaTree> make) {
        StemmaTree made() {
            StemmaTree x = new StemmaTree();
            make.accept(x);
            return x;
        }
    }

    private record Call(String name, int a, int b, int c, int want) {
        String told() {
            return name + "(" + a + ", " + b + ", " + c + ")";
        }
    }

    public static void main(String[] args) {
        for (State state : states()) {
            List<int[]> twin = answers(state, x -> { });
            for (Call call : callsThatChangeNothing(state.made())) {
                CHECK.due(state.name + ": " + call.told(), answerOf(state, call), call.want);
                List<int[]> then = answers(state, x -> Calls.call(x, call.name, call.a, call.b, call.c));
                for (int i = 0; i < twin.size(); i++) {
                    boolean alike = Arrays.equals(twin.get(i), then.get(i));
                    CHECK.isTrue(state.name + ": " + call.told() + " changes nothing, probe " + i, alike);
                }
            }
        }
        badComesFirst();
        CHECK.end();
    }

    private static int answerOf(State state, Call call) {
        int got = Calls.call(state.made(), call.name, call.a, call.b, call.c);
        return call.want == ANY ? ANY : got;
    }

    private static List<State> states() {
        return List.of(
                new State("new", x -> { }),
                new State("one copy", x -> tell(x, "ma?b;")),
                new State("two copies", x -> {
                    tell(x, "ma?;mbc;");
                    x.sees(1);
                    x.reads(0, 1, 2);
                    Check.type(x, "ma;m");
                }),
                new State("four copies", x -> {
                    tell(x, "maa?;mab?;mbab;mbbc;");
                    x.chooses(2);
                    x.keep(1);
                    x.reads(1, 2, 3);
                    x.betters();
                    x.sees(2);
                    Check.type(x, "mx;");
                }),
                new State("full", RefusedTest::fill));
    }

    private static void tell(StemmaTree x, String text) {
        Check.type(x, text);
        x.copies();
    }

    /** THE TEXT is full and has a FAULT; six are seen; ten may be undone; both images are kept. */
    private static void fill(StemmaTree x) {
        tell(x, "mabcdabcd;mbcdabcda;m?bcd?bcd;mdcbadcba;maabbccdd;mddccbb??;");
        x.keep(0);
        for (int i = 0; i < 6; i++) {
            x.chooses(100 - 7 * i);
            x.reads(i, i, i % 2 == 0 ? 4 : 1);
            x.sees(2);
        }
        x.keep(1);
        Check.type(x, " ".repeat(20) + "mabcdabcd;".repeat(7));
    }

    /** All that can be asked, each list by objects of its own, so that none has more than 512 calls. */
    private static List<int[]> answers(State state, Consumer<StemmaTree> first) {
        List<Function<StemmaTree, int[]>> probes = new ArrayList<>();
        probes.add(Asked::counts);
        probes.add(Asked::readings);
        probes.add(Asked::questions);
        for (int copy = 0; copy < 6; copy++) {
            int one = copy;
            probes.add(x -> undone(x, one));
        }
        probes.add(x -> Asked.readingsOf(x, x.back(0)));
        probes.add(x -> Asked.readingsOf(x, x.back(1)));
        probes.add(x -> Asked.readingsOf(x, x.copies()));
        probes.add(RefusedTest::textGoesOn);
        List<int[]> answers = new ArrayList<>();
        for (Function<StemmaTree, int[]> probe : probes) {
            StemmaTree x = state.made();
            first.accept(x);
            answers.add(probe.apply(x));
        }
        return answers;
    }

    private static int[] undone(StemmaTree x, int copy) {
        int[] answers = new int[110];
        for (int i = 0; i < 11; i++) {
            answers[10 * i] = x.undo();
            answers[10 * i + 1] = x.count(3);
            for (int place = 0; place < 8; place++) {
                answers[10 * i + 2 + place] = x.reading(copy, place);
            }
        }
        return answers;
    }

    private static int[] textGoesOn(StemmaTree x) {
        return new int[] {x.type(';'), x.copies(), x.clear(), x.copies()};
    }

    /** With what each must answer; ANY for those that only ask. */
    private static List<Call> callsThatChangeNothing(StemmaTree x) {
        int copies = x.count(0), places = x.count(1), trees = x.count(2), edges = x.count(4);
        List<Call> calls = new ArrayList<>();
        for (int wrong : outside(copies)) {
            for (String name : new String[] {"reading", "reads", "fitting", "mixed"}) {
                calls.add(new Call(name, wrong, 0, 0, BAD));
            }
            calls.add(new Call("shared", 0, wrong, 0, BAD));
        }
        for (int wrong : outside(places)) {
            for (String name : new String[] {"reading", "reads", "fitting", "quarrel"}) {
                calls.add(new Call(name, 0, wrong, 0, BAD));
            }
            calls.add(new Call("quarrel", wrong, 0, 0, BAD));
            calls.add(new Call("shared", wrong, 0, 0, BAD));
            if (wrong != -1) {
                calls.add(new Call("changes", 0, wrong, 0, BAD));
            }
        }
        for (int wrong : outside(trees)) {
            calls.add(new Call("chooses", wrong, 0, 0, BAD));
            calls.add(new Call("changes", wrong, -1, 0, BAD));
            calls.add(new Call("directed", wrong, 0, 0, BAD));
            calls.add(new Call("root", wrong, 0, 0, BAD));
            calls.add(new Call("rank", wrong, 0, 0, wrong < 0 ? BAD : NONE));
        }
        addOutside(calls, "directed", 1, edges);
        addOutside(calls, "reads", 2, 5);
        addOutside(calls, "mixed", 1, 5);
        addOutside(calls, "best", 0, 4);
        addOutside(calls, "sees", 0, 7);
        addOutside(calls, "keep", 0, 2);
        addOutside(calls, "back", 0, 2);
        addOutside(calls, "count", 0, 10);
        addOutside(calls, "type", 0, 256);
        calls.add(new Call("quarrel", 0, 0, 0, BAD));
        calls.add(new Call("chooses", x.count(3), 0, 0, STATE));
        addRefusedByState(calls, x);
        addQuestions(calls);
        return calls;
    }

    private static void addOutside(List<Call> calls, String name, int position, int limit) {
        for (int wrong : outside(limit)) {
            int[] arguments = {0, 0, 0};
            arguments[position] = wrong;
            calls.add(new Call(name, arguments[0], arguments[1], arguments[2], BAD));
        }
    }

    private static int[] outside(int limit) {
        int[] wrong = Arrays.copyOf(FAR, FAR.length + 5);
        int[] near = {limit, limit + 1, limit + 2, limit + 8, limit + 256};
        System.arraycopy(near, 0, wrong, FAR.length, near.length);
        return wrong;
    }

    /** On objects like x: what a fresh one answers with STATE, FULL or a FAULT. */
    private static void addRefusedByState(List<Call> calls, StemmaTree x) {
        for (int i = 0; i < x.count(0) * x.count(1); i++) {
            int copy = i / x.count(1), place = i % x.count(1);
            int now = x.reading(copy, place);
            calls.add(new Call("reads", copy, place, now == NONE ? 4 : now, STATE));
        }
        if (x.count(9) == 0) {
            calls.add(new Call("undo", 0, 0, 0, STATE));
        }
        if (x.count(7) == 6) {
            calls.add(new Call("sees", 0, 0, 0, FULL));
            calls.add(new Call("sees", 6, 0, 0, FULL));
        }
        if (x.count(8) == 90) {
            calls.add(new Call("type", ' ', 0, 0, FULL));
            calls.add(new Call("type", 0, 0, 0, FULL));
            calls.add(new Call("copies", 0, 0, 0, -90));
        }
        if (x.count(8) == 4) {
            calls.add(new Call("copies", 0, 0, 0, -14));
        }
        if (x.count(8) == 3) {
            calls.add(new Call("copies", 0, 0, 0, -11));
        }
        if (x.count(0) < 4) {
            calls.add(new Call("betters", 0, 0, 0, STATE));
            calls.add(new Call("back", 0, 0, 0, STATE));
            calls.add(new Call("back", 1, 0, 0, STATE));
        }
        if (x.count(0) == 4) {
            calls.add(new Call("betters", 0, 0, 0, STATE));
            calls.add(new Call("back", 0, 0, 0, STATE));
        }
    }

    private static void addQuestions(List<Call> calls) {
        String[] names = {"reading", "changes", "directed", "root", "rank", "best", "fitting", "quarrel", "shared", "mixed",
            "unseen", "count"};
        for (String name : names) {
            for (int a = 0; a < 6; a++) {
                for (int b = -1; b < 3; b++) {
                    calls.add(new Call(name, a, b, 0, ANY));
                }
            }
        }
    }

    /** "the first of these: BAD .., STATE .., FULL" */
    private static void badComesFirst() {
        StemmaTree x = new StemmaTree();
        fill(x);
        CHECK.due("type, BAD ahead of FULL", x.type(256), BAD);
        CHECK.due("type, BAD below", x.type(-1), BAD);
        CHECK.due("type, FULL", x.type(255), FULL);
        CHECK.due("sees, BAD ahead of FULL", x.sees(7), BAD);
        CHECK.due("sees, BAD below", x.sees(-1), BAD);
        CHECK.due("sees, FULL", x.sees(6), FULL);
        StemmaTree y = new StemmaTree();
        CHECK.due("back, BAD ahead of STATE", y.back(2), BAD);
        CHECK.due("back, STATE", y.back(1), STATE);
        CHECK.due("chooses, BAD", y.chooses(1), BAD);
        CHECK.due("chooses, STATE", y.chooses(0), STATE);
        tell(y, "m?;");
        CHECK.due("reads, BAD by its copy, though it is that elsewhere", y.reads(1, 0, 4), BAD);
        CHECK.due("reads, BAD by its place", y.reads(0, 1, 4), BAD);
        CHECK.due("reads, BAD by its reading", y.reads(0, 0, NONE), BAD);
        CHECK.due("reads, STATE", y.reads(0, 0, 4), STATE);
    }
}
