import java.util.ArrayDeque;
import java.util.ArrayList;
import java.util.List;
import java.util.Random;

/** Long random runs, by fixed seeds: StemmaTree must answer each call as the slow model does. */
public final class ModelTest {
    private static final String[] CALLS = {
        "reading", "reads", "reads", "reads", "reads", "chooses", "chooses", "betters", "betters", "undo", "undo", "changes",
        "changes", "directed", "root", "rank", "best", "fitting", "fitting", "quarrel", "shared", "mixed", "mixed", "sees",
        "forget", "unseen", "unseen", "keep", "back", "count", "count"};
    private static final int RUNS = 200, CALLS_A_RUN = 512;

    private final Random random;
    private final StemmaTree x = new StemmaTree();
    private final Model model = new Model();
    private final List<String> log = new ArrayList<>();
    private final ArrayDeque<Integer> pending = new ArrayDeque<>();

    private ModelTest(int seed) {
        random = new Random(seed);
    }

    public static void main(String[] args) {
        Check check = new Check();
        for (int seed = 1; seed <= RUNS && check.wrong() == 0; seed++) {
            new ModelTest(seed).run(check, seed);
        }
        check.end();
    }

    private void run(Check check, int seed) {
        for (int i = 0; i < CALLS_A_RUN && check.wrong() == 0; i++) {
            String name = nextCall();
            int a = argument(name, 0), b = argument(name, 1), c = argument(name, 2);
            int got = Calls.call(x, name, a, b, c);
            String row = name + "(" + a + ", " + b + ", " + c + ")";
            log.add(row + " -> " + got);
            check.due("seed " + seed + " call " + i + " " + row, got, model.call(name, a, b, c));
        }
        if (check.wrong() != 0) {
            log.forEach(System.out::println);
        }
    }

    private String nextCall() {
        if (!pending.isEmpty()) {
            return pending.peek() == -1 ? "copies" : "type";
        }
        int dice = random.nextInt(model.count(0) == 0 ? 12 : 120);
        if (log.isEmpty() || dice == 0) {
            if (model.count(8) > 0 && random.nextInt(4) > 0) {
                return "clear";
            }
            planText();
            return "type";
        }
        if (dice == 1) {
            return "clear";
        }
        if (dice == 2) {
            return "type";
        }
        return CALLS[random.nextInt(CALLS.length)];
    }

    /** Mostly texts of many copies; now and then one letter is off. */
    private void planText() {
        int copies = random.nextInt(3) == 0 ? random.nextInt(8) : 4 + random.nextInt(3);
        int places = random.nextInt(3) == 0 ? 1 + random.nextInt(9) : 2 + random.nextInt(4);
        int kinds = 2 + random.nextInt(3);
        int lost = 2 + random.nextInt(8);
        StringBuilder text = new StringBuilder();
        for (int copy = 0; copy < copies; copy++) {
            text.append('m');
            for (int place = 0; place < places; place++) {
                if (random.nextInt(20) == 0) {
                    text.append(' ');
                }
                text.append(random.nextInt(lost) == 0 ? '?' : (char) ('a' + random.nextInt(kinds)));
            }
            text.append(';');
        }
        if (text.length() > 0 && random.nextInt(4) == 0) {
            text.setCharAt(random.nextInt(text.length()), "m;a? ez".charAt(random.nextInt(7)));
        }
        text.chars().forEach(pending::add);
        pending.add(-1);
        if (pending.size() == 1) {
            pending.addFirst((int) ' ');
        }
    }

    private int argument(String name, int position) {
        if (position == 0 && name.equals("copies")) {
            pending.poll();
            return 0;
        }
        if (position == 0 && name.equals("type")) {
            return pending.isEmpty() ? random.nextInt(300) - 20 : pending.poll();
        }
        if (random.nextInt(60) == 0) {
            return random.nextBoolean() ? Integer.MIN_VALUE : Integer.MAX_VALUE;
        }
        int most = most(name, position);
        int slack = random.nextInt(12) == 0 ? 1 : 0;
        return random.nextInt(most + 2 * slack) - slack;
    }

    private int most(String name, int position) {
        int copies = Math.max(model.count(0), 1), places = Math.max(model.count(1), 1);
        switch (name + position) {
            case "reading0": case "reads0": case "fitting0": case "shared1": case "mixed0": return copies;
            case "reading1": case "reads1": case "fitting1": case "shared0": case "quarrel0": case "quarrel1": return places;
            case "changes1": return random.nextBoolean() ? places : 1;
            case "reads2": case "mixed1": return 5;
            case "chooses0": case "changes0": case "directed0": case "root0": case "rank0": return model.count(2);
            case "directed1": return Math.max(model.count(4), 1);
            case "best0": return 4;
            case "sees0": return random.nextInt(3) == 0 ? 7 : 4;
            case "keep0": case "back0": return 2;
            case "count0": return 10;
            default: return 1;
        }
    }
}
