import java.util.Map;
import java.util.Random;
import java.util.TreeMap;

/** Long mixed runs of calls, each answer compared with that of Model; always the same runs. */
public final class AgainstModelTest {
    private static final int CALLS = 512;
    private static final String[] NAMES = {
        "scan", "clean", "set", "publish", "draw", "look", "take", "restore", "undo", "append", "clearText", "run",
        "failure", "count", "card", "place", "runAt", "outcome", "tally", "changed", "leader", "error", "byLength",
        "drawn", "seedFor"
    };

    private final Random random;
    private final SmudgeTally real = new SmudgeTally();
    private final Model model = new Model();
    private final StringBuilder calls = new StringBuilder();
    private final Map<String, Integer> seen;
    private final int emptiness;
    private final int darkness;
    private final int machines;
    private final int actionShare;
    private final int undoShare;
    private int made = 0;
    private boolean wrong = false;

    private AgainstModelTest(long seed, Map<String, Integer> seen) {
        this.seen = seen;
        random = new Random(seed);
        emptiness = new int[] {0, 5, 15, 40, 70}[random.nextInt(5)];
        darkness = 2 + random.nextInt(8);
        machines = 1 + random.nextInt(3);
        actionShare = 15 + random.nextInt(50);
        undoShare = random.nextInt(3);
    }

    public static void main(String[] args) {
        int objects = args.length > 0 ? Integer.parseInt(args[0]) : 1200;
        long from = args.length > 1 ? Long.parseLong(args[1]) : 0;
        Map<String, Integer> seen = new TreeMap<>();
        int wrongs = 0;
        for (long seed = from; seed < from + objects && wrongs < 5; seed++) {
            AgainstModelTest test = new AgainstModelTest(seed, seen);
            if (!test.holds()) {
                wrongs++;
                System.out.println("seed " + seed + ":\n" + test.calls);
            }
        }
        if (wrongs == 0) wrongs = rareAnswers(seen);
        if (wrongs > 0) System.exit(1);
        System.out.println(objects + " runs like the model");
    }

    /** The runs are worth nothing for a kind of answer that they never met. */
    private static int rareAnswers(Map<String, Integer> seen) {
        String[] due = {
            "scan -3", "scan -1", "publish -2", "publish -3", "publish +", "draw -2", "draw -1", "draw +", "look -1",
            "look -2", "look +", "restore -2", "restore +", "undo -2", "undo +", "append -3", "append -1", "run +",
            "run -1000", "failure -9", "failure +", "changed -9", "changed +", "outcome -9", "outcome +", "drawn -9",
            "drawn +", "seedFor -9", "seedFor +", "byLength +", "error +", "runAt -9", "runAt +", "failed kind 2"
        };
        int missing = 0;
        for (String kind : due) {
            if (seen.getOrDefault(kind, 0) < 5) {
                missing++;
                System.out.println("too seldom met: " + kind + " (" + seen.getOrDefault(kind, 0) + ")");
            }
        }
        return missing;
    }

    private boolean holds() {
        while (made < CALLS && !wrong) {
            int kind = random.nextInt(100);
            if (random.nextInt(150) == 0) {
                undoAll();
            } else if (kind < actionShare) {
                action();
            } else if (kind < actionShare + 3) {
                program();
            } else {
                question();
            }
        }
        return !wrong;
    }

    private void action() {
        int kind = random.nextInt(100);
        if (kind < 40) call(0, machine(), row());
        else if (kind < 44) call(1, machine(), 0);
        else if (kind < 54) call(2, number(0, 3), number(0, 20) >> (random.nextInt(3) == 0 ? 0 : 1));
        else if (kind < 62) call(3, 0, 0);
        else if (kind < 74) call(4, seed(), random.nextInt(10) == 0 ? number(1, 40) : number(1, 3));
        else if (kind < 90) call(5, drawnCard(), row());
        else if (kind < 93) call(6, number(0, 1), 0);
        else if (kind < 96) call(7, number(0, 1), 0);
        else if (kind < 96 + undoShare) call(8, 0, 0);
        else call(9, random.nextInt(4) == 0 ? number(1, 255) : " ;0azscan".charAt(random.nextInt(9)), 0);
    }

    private void undoAll() {
        for (int i = 0; i < 6; i++) {
            call(8, 0, 0);
            for (int j = 0; j < 4; j++) question();
        }
    }

    private void question() {
        int name = 12 + random.nextInt(13);
        switch (NAMES[name]) {
            case "failure": call(name, number(0, 3), 0); break;
            case "count": call(name, number(0, 14), 0); break;
            case "card": call(name, card(), number(0, 5)); break;
            case "place": call(name, card(), number(0, 11), number(0, 4)); break;
            case "runAt": call(name, card(), number(0, 11), number(0, 2)); break;
            case "outcome": call(name, card(), number(0, 3), number(-1, 5)); break;
            case "tally": call(name, number(0, 3), number(0, 5), version(), number(-1, 2)); break;
            case "changed": call(name, version(), number(0, 4), number(0, 1)); break;
            case "leader": call(name, number(0, 3), number(0, 3)); break;
            case "error": call(name, number(0, 2), number(0, 2)); break;
            case "byLength": call(name, number(2, 9), 0); break;
            case "drawn": call(name, seed(), 0); break;
            default: call(name, card(), 0); break;
        }
    }

    private void program() {
        if (random.nextInt(3) > 0) call(10, 0, 0);
        StringBuilder text = new StringBuilder();
        int commands = random.nextInt(7);
        for (int i = 0; i < commands; i++) {
            space(text, 0);
            command(text);
            space(text, 0);
            text.append(';');
        }
        space(text, 0);
        if (random.nextInt(4) == 0 && text.length() > 0) spoil(text);
        for (int i = 0; i < text.length() && made < CALLS - 4; i++) call(9, text.charAt(i), 0);
        call(11, 0, 0);
        for (int what = 0; what < 4; what++) call(12, what, 0);
    }

    private void command(StringBuilder text) {
        switch (random.nextInt(6)) {
            case 0: case 1: word(text, "scan"); space(text, 0); text.append(machine()); space(text, 1); writeRow(text); break;
            case 2: word(text, "clean"); space(text, 0); text.append(machine()); break;
            case 3: word(text, "draw"); space(text, 0); text.append(seed()); space(text, 1); text.append(number(1, 2)); break;
            case 4: word(text, "look"); space(text, 0); text.append(drawnCard()); space(text, 1); writeRow(text); break;
            default: word(text, "publish"); break;
        }
    }

    private void word(StringBuilder text, String word) {
        text.append(random.nextInt(60) == 0 ? word + "x" : word);
    }

    private void writeRow(StringBuilder text) {
        text.append(random.nextInt(40) == 0 ? "" + row() : String.format("%012d", Math.floorMod(row(), 1000000000000L)));
    }

    private void space(StringBuilder text, int least) {
        int spaces = Math.max(least, random.nextInt(8) == 0 ? 1 : 0);
        for (int i = 0; i < spaces; i++) text.append(' ');
    }

    private void spoil(StringBuilder text) {
        int at = random.nextInt(text.length());
        switch (random.nextInt(4)) {
            case 0: text.deleteCharAt(at); break;
            case 1: text.setLength(at); break;
            case 2: text.insert(at, (char) (1 + random.nextInt(255))); break;
            default: text.insert(at, " ;09az".charAt(random.nextInt(6))); break;
        }
    }

    private int number(int from, int to) {
        int kind = random.nextInt(120);
        if (kind == 0) return from - 1;
        if (kind == 1) return to + 1;
        if (kind == 2) return Integer.MIN_VALUE;
        if (kind == 3) return Integer.MAX_VALUE;
        return from + random.nextInt(to - from + 1);
    }

    private int machine() {
        return random.nextInt(60) == 0 ? number(0, 2) : random.nextInt(machines);
    }

    private int seed() {
        return random.nextInt(4) == 0 ? number(65530, 65536) : number(0, 65536);
    }

    private int version() {
        int versions = model.count(4);
        return random.nextInt(10) == 0 || versions == 0 ? number(-1, 6) : number(-1, versions - 1);
    }

    private int card() {
        int cards = model.count(0);
        return cards == 0 ? number(0, 39) : number(0, cards - 1);
    }

    private int drawnCard() {
        int from = random.nextInt(40);
        for (int i = 0; i < 40; i++) {
            if (model.card((from + i) % 40, 3) == 1) return random.nextInt(20) == 0 ? card() : (from + i) % 40;
        }
        return card();
    }

    private long row() {
        if (random.nextInt(150) == 0) return random.nextBoolean() ? 1000000000000L : -1L;
        if (random.nextInt(300) == 0) return random.nextBoolean() ? 999999999999L : random.nextLong();
        long row = 0;
        for (int place = 0; place < 12; place++) {
            int digit = random.nextInt(100) < emptiness ? 0 : 1 + random.nextInt(darkness);
            if (random.nextInt(6) == 0) digit = random.nextInt(10);
            row = 10 * row + Math.min(9, digit);
        }
        return row;
    }

    private void call(int name, long... a) {
        if (made >= CALLS || wrong) return;
        made++;
        int is = answer(name, a);
        int due = modelAnswer(name, a);
        calls.append(NAMES[name]);
        for (long value : a) calls.append(' ').append(value);
        calls.append(" = ").append(is).append('\n');
        note(name, is);
        if (is != due) {
            wrong = true;
            calls.append("due is ").append(due).append('\n');
        }
    }

    private void note(int name, int is) {
        String kind = is >= 0 ? "+" : is <= -1000 ? "-1000" : "" + is;
        seen.merge(NAMES[name] + " " + kind, 1, Integer::sum);
        if (name == 11 && is < 0 && model.failure(0) == 2) seen.merge("failed kind 2", 1, Integer::sum);
    }

    private int answer(int name, long[] a) {
        int i = (int) at(a, 0), j = (int) at(a, 1), k = (int) at(a, 2), l = (int) at(a, 3);
        switch (NAMES[name]) {
            case "scan": return real.scan(i, at(a, 1));
            case "clean": return real.clean(i);
            case "set": return real.set(i, j);
            case "publish": return real.publish();
            case "draw": return real.draw(i, j);
            case "look": return real.look(i, at(a, 1));
            case "take": return real.take(i);
            case "restore": return real.restore(i);
            case "undo": return real.undo();
            case "append": return real.append(i);
            case "clearText": return real.clearText();
            case "run": return real.run();
            case "failure": return real.failure(i);
            case "count": return real.count(i);
            case "card": return real.card(i, j);
            case "place": return real.place(i, j, k);
            case "runAt": return real.runAt(i, j, k);
            case "outcome": return real.outcome(i, j, k);
            case "tally": return real.tally(i, j, k, l);
            case "changed": return real.changed(i, j, k);
            case "leader": return real.leader(i, j);
            case "error": return real.error(i, j);
            case "byLength": return real.byLength(i);
            case "drawn": return real.drawn(i);
            default: return real.seedFor(i);
        }
    }

    private int modelAnswer(int name, long[] a) {
        int i = (int) at(a, 0), j = (int) at(a, 1), k = (int) at(a, 2), l = (int) at(a, 3);
        switch (NAMES[name]) {
            case "scan": return model.scan(i, at(a, 1));
            case "clean": return model.clean(i);
            case "set": return model.set(i, j);
            case "publish": return model.publish();
            case "draw": return model.draw(i, j);
            case "look": return model.look(i, at(a, 1));
            case "take": return model.take(i);
            case "restore": return model.restore(i);
            case "undo": return model.undo();
            case "append": return model.append(i);
            case "clearText": return model.clearText();
            case "run": return model.run();
            case "failure": return model.failure(i);
            case "count": return model.count(i);
            case "card": return model.card(i, j);
            case "place": return model.place(i, j, k);
            case "runAt": return model.runAt(i, j, k);
            case "outcome": return model.outcome(i, j, k);
            case "tally": return model.tally(i, j, k, l);
            case "changed": return model.changed(i, j, k);
            case "leader": return model.leader(i, j);
            case "error": return model.error(i, j);
            case "byLength": return model.byLength(i);
            case "drawn": return model.drawn(i);
            default: return model.seedFor(i);
        }
    }

    private static long at(long[] a, int index) {
        return index < a.length ? a[index] : 0;
    }
}
