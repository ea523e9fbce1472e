import java.util.ArrayList;
import java.util.List;
import java.util.regex.Matcher;
import java.util.regex.Pattern;

/** The document once more, slowly and word by word, to compare SmudgeTally with. */
final class Model {
    private static final int INVALID = -1;
    private static final int ILLEGAL = -2;
    private static final int FULL = -3;
    private static final int NONE = -9;
    private static final Pattern TOKEN = Pattern.compile("[a-z]+|[0-9]+|[^ ]", Pattern.DOTALL);

    private record Card(int machine, String row, int epoch, boolean drawn, String truth) {
        int read(int place) {
            return row.charAt(place) - '0';
        }

        int seen(int place) {
            return truth.charAt(place) - '0';
        }
    }

    /** Never changed once made, so that states and snapshots may share it. */
    private record Desk(List<Card> cards, List<List<List<Integer>>> versions, List<Integer> epochs, List<Integer> numbers) {
    }

    private record State(Desk desk, List<Desk> slots) {
    }

    private Desk desk = new Desk(List.of(), List.of(), List.of(0, 0, 0), List.of(4, 6, 4, 5));
    private List<Desk> slots = slotsOf(null, null);
    private final List<State> history = new ArrayList<>();
    private String text = "";
    private int[] failure = null;

    private static List<Desk> slotsOf(Desk first, Desk second) {
        List<Desk> both = new ArrayList<>();
        both.add(first);
        both.add(second);
        return both;
    }

    private static <T> List<T> with(List<T> list, int index, T value) {
        List<T> other = new ArrayList<>(list);
        if (index == list.size()) {
            other.add(value);
        } else {
            other.set(index, value);
        }
        return other;
    }

    private static String digits(long row) {
        return String.format("%012d", row);
    }

    private static boolean badRow(long row) {
        return row < 0 || row > 999999999999L;
    }

    private static boolean out(int value, int from, int to) {
        return value < from || value > to;
    }

    private int record(State before, int answer) {
        if (answer >= 0) {
            history.add(before);
            if (history.size() > 5) {
                history.remove(0);
            }
        }
        return answer;
    }

    private State state() {
        return new State(desk, slots);
    }

    // ---- the actions, without the history

    private int doScan(int machine, long row) {
        if (out(machine, 0, 2) || badRow(row)) return INVALID;
        if (desk.cards.size() == 40) return FULL;
        Card card = new Card(machine, digits(row), desk.epochs.get(machine), false, null);
        desk = new Desk(with(desk.cards, desk.cards.size(), card), desk.versions, desk.epochs, desk.numbers);
        return desk.cards.size() - 1;
    }

    private int doClean(int machine) {
        if (out(machine, 0, 2)) return INVALID;
        desk = new Desk(desk.cards, desk.versions, with(desk.epochs, machine, desk.epochs.get(machine) + 1), desk.numbers);
        return (int) desk.cards.stream().filter(c -> c.machine == machine).count();
    }

    private int doSet(int what, int value) {
        if (out(what, 0, 3)) return INVALID;
        if (what == 0 && out(value, 2, 9)) return INVALID;
        if ((what == 1 || what == 2) && out(value, 1, 9)) return INVALID;
        if (what == 3 && out(value, 0, 20)) return INVALID;
        int previous = desk.numbers.get(what);
        desk = new Desk(desk.cards, desk.versions, desk.epochs, with(desk.numbers, what, value));
        return previous;
    }

    private int doPublish() {
        if (desk.cards.isEmpty() || count(6) > desk.numbers.get(3)) return ILLEGAL;
        if (desk.versions.size() == 6) return FULL;
        int changed = count(5);
        desk = new Desk(desk.cards, with(desk.versions, desk.versions.size(), outcomesNow()), desk.epochs, desk.numbers);
        return changed;
    }

    private int doDraw(int seed, int many) {
        if (out(seed, 0, 65536) || out(many, 1, 40)) return INVALID;
        List<Integer> pool = pool();
        if (pool.size() < many) return ILLEGAL;
        long x = seed;
        for (int i = 0; i < many; i++) {
            x = (75 * x + 74) % 65537;
            int number = pool.remove((int) (x % pool.size()));
            Card c = desk.cards.get(number);
            Card drawn = new Card(c.machine, c.row, c.epoch, true, null);
            desk = new Desk(with(desk.cards, number, drawn), desk.versions, desk.epochs, desk.numbers);
        }
        return count(2);
    }

    private int doLook(int card, long row) {
        if (out(card, 0, desk.cards.size() - 1) || badRow(row)) return INVALID;
        Card c = desk.cards.get(card);
        if (!c.drawn || c.truth != null) return ILLEGAL;
        List<Integer> before = outcomesNow().get(card);
        Card seen = new Card(c.machine, c.row, c.epoch, true, digits(row));
        desk = new Desk(with(desk.cards, card, seen), desk.versions, desk.epochs, desk.numbers);
        return difference(before, outcomesNow().get(card));
    }

    // ---- the face

    int scan(int machine, long row) {
        return record(state(), doScan(machine, row));
    }

    int clean(int machine) {
        return record(state(), doClean(machine));
    }

    int set(int what, int value) {
        return record(state(), doSet(what, value));
    }

    int publish() {
        return record(state(), doPublish());
    }

    int draw(int seed, int many) {
        return record(state(), doDraw(seed, many));
    }

    int look(int card, long row) {
        return record(state(), doLook(card, row));
    }

    int take(int slot) {
        if (out(slot, 0, 1)) return INVALID;
        State before = state();
        slots = with(slots, slot, desk);
        return record(before, desk.cards.size());
    }

    int restore(int slot) {
        if (out(slot, 0, 1)) return INVALID;
        if (slots.get(slot) == null) return ILLEGAL;
        State before = state();
        desk = slots.get(slot);
        return record(before, desk.cards.size());
    }

    int undo() {
        if (history.isEmpty()) return ILLEGAL;
        State latest = history.remove(history.size() - 1);
        desk = latest.desk;
        slots = latest.slots;
        return history.size();
    }

    int append(int character) {
        if (out(character, 1, 255)) return INVALID;
        if (text.length() == 140) return FULL;
        text += (char) character;
        return text.length();
    }

    int clearText() {
        int length = text.length();
        text = "";
        return length;
    }

    private static final String NUMBER = "0|[1-9][0-9]{0,4}";
    private static final String ROW = "[0-9]{12}";

    /** What may stand at each place of a command behind its word, or null for a word that is none. */
    private static String[] form(String word) {
        switch (word) {
            case "scan": case "look": return new String[] {NUMBER, ROW, ";"};
            case "clean": return new String[] {NUMBER, ";"};
            case "draw": return new String[] {NUMBER, NUMBER, ";"};
            case "publish": return new String[] {";"};
            default: return null;
        }
    }

    int run() {
        State before = state();
        int[] failed = new int[4];
        int commands = runCommands(failed);
        if (commands < 0) {
            desk = before.desk;
            failure = failed;
            return -1000 - failed[1];
        }
        text = "";
        return record(before, commands);
    }

    private int runCommands(int[] failed) {
        Matcher m = TOKEN.matcher(text);
        int commands = 0;
        while (m.find()) {
            int wordPlace = m.start();
            String word = m.group();
            String[] form = form(word);
            if (form == null) return fail(failed, 1, wordPlace, commands, NONE);
            String[] given = new String[form.length];
            for (int i = 0; i < form.length; i++) {
                if (!m.find()) return fail(failed, 1, text.length(), commands, NONE);
                if (!m.group().matches(form[i])) return fail(failed, 1, m.start(), commands, NONE);
                given[i] = m.group();
            }
            int answer = call(word, given);
            if (answer < 0) return fail(failed, 2, wordPlace, commands, answer);
            commands++;
        }
        return commands;
    }

    private int call(String word, String[] given) {
        switch (word) {
            case "scan": return doScan(Integer.parseInt(given[0]), Long.parseLong(given[1]));
            case "look": return doLook(Integer.parseInt(given[0]), Long.parseLong(given[1]));
            case "clean": return doClean(Integer.parseInt(given[0]));
            case "draw": return doDraw(Integer.parseInt(given[0]), Integer.parseInt(given[1]));
            default: return doPublish();
        }
    }

    private static int fail(int[] failed, int kind, int place, int commands, int code) {
        failed[0] = kind;
        failed[1] = place;
        failed[2] = commands;
        failed[3] = code;
        return -1;
    }

    int failure(int what) {
        if (out(what, 0, 3)) return INVALID;
        return failure == null ? NONE : failure[what];
    }

    int count(int what) {
        switch (what) {
            case 0: return desk.cards.size();
            case 1: return (int) desk.cards.stream().filter(c -> c.truth != null).count();
            case 2: return (int) desk.cards.stream().filter(c -> c.drawn && c.truth == null).count();
            case 3: return pool().size();
            case 4: return desk.versions.size();
            case 5: return changing().size();
            case 6: return (int) changing().stream().filter(c -> desk.cards.get(c).truth == null).count();
            case 7: return streaks();
            case 8: return (slots.get(0) == null ? 0 : 1) + (slots.get(1) == null ? 0 : 1);
            case 9: return history.size();
            case 10: return text.length();
            default: return out(what, 11, 14) ? INVALID : desk.numbers.get(what - 11);
        }
    }

    int card(int card, int what) {
        if (out(card, 0, desk.cards.size() - 1) || out(what, 0, 5)) return INVALID;
        Card c = desk.cards.get(card);
        switch (what) {
            case 0: return c.machine;
            case 1: return (int) desk.cards.subList(0, card).stream().filter(o -> o.machine == c.machine).count();
            case 2: return c.epoch;
            case 3: return c.truth != null ? 2 : c.drawn ? 1 : 0;
            case 4: return doubtful(card);
            default: return pool().contains(card) ? 1 : 0;
        }
    }

    int place(int card, int place, int what) {
        if (out(card, 0, desk.cards.size() - 1) || out(place, 0, 11) || out(what, 0, 4)) return INVALID;
        Card c = desk.cards.get(card);
        int least = desk.numbers.get(0);
        switch (what) {
            case 0: return c.read(place);
            case 1: return dirt(card, place, least);
            case 2: return c.truth == null ? NONE : c.seen(place);
            case 3: return clear(card, place, least);
            default: return mark(card, place, least);
        }
    }

    int runAt(int card, int place, int what) {
        if (out(card, 0, desk.cards.size() - 1) || out(place, 0, 11) || out(what, 0, 2)) return INVALID;
        List<Integer> run = runOf(card, place);
        if (run.isEmpty()) return NONE;
        return what == 0 ? run.get(0) : what == 1 ? run.get(run.size() - 1) : run.size();
    }

    private boolean noVersion(int version, int from) {
        return out(version, from, desk.versions.size() - 1);
    }

    private List<List<Integer>> outcomesIn(int version) {
        return version == -1 ? outcomesNow() : desk.versions.get(version);
    }

    int outcome(int card, int contest, int version) {
        if (out(card, 0, desk.cards.size() - 1) || out(contest, 0, 3) || noVersion(version, -1)) return INVALID;
        List<List<Integer>> outcomes = outcomesIn(version);
        return card < outcomes.size() ? outcomes.get(card).get(contest) : NONE;
    }

    int tally(int contest, int outcome, int version, int machine) {
        if (out(contest, 0, 3) || out(outcome, 0, 5) || noVersion(version, -1) || out(machine, -1, 2)) return INVALID;
        List<List<Integer>> outcomes = outcomesIn(version);
        int found = 0;
        for (int card = 0; card < outcomes.size(); card++) {
            if (machine != -1 && desk.cards.get(card).machine != machine) continue;
            if (outcomes.get(card).get(contest) == outcome) found++;
        }
        return found;
    }

    int changed(int version, int index, int what) {
        if (noVersion(version, 0) || index < 0 || out(what, 0, 1)) return INVALID;
        if (version == 0) return NONE;
        List<List<Integer>> before = desk.versions.get(version - 1);
        List<List<Integer>> after = desk.versions.get(version);
        List<Integer> cards = new ArrayList<>();
        for (int card = 0; card < before.size(); card++) {
            if (!before.get(card).equals(after.get(card))) cards.add(card);
        }
        if (index >= cards.size()) return NONE;
        int card = cards.get(index);
        return what == 0 ? card : difference(before.get(card), after.get(card));
    }

    int leader(int contest, int what) {
        if (out(contest, 0, 3) || out(what, 0, 3)) return INVALID;
        int[] votes = new int[3];
        for (int choice = 0; choice < 3; choice++) votes[choice] = tally(contest, choice, -1, -1);
        int best = votes[0] >= votes[1] && votes[0] >= votes[2] ? 0 : votes[1] >= votes[2] ? 1 : 2;
        int second = best == 0 ? Math.max(votes[1], votes[2]) : best == 1 ? Math.max(votes[0], votes[2]) : Math.max(votes[0], votes[1]);
        int doubtful = tally(contest, 5, -1, -1);
        int lead = votes[best] - second;
        return what == 0 ? best : what == 1 ? lead : what == 2 ? doubtful : lead > doubtful ? 1 : 0;
    }

    int error(int machine, int what) {
        if (out(machine, 0, 2) || out(what, 0, 2)) return INVALID;
        int sum = 0;
        for (int card = 0; card < desk.cards.size(); card++) {
            Card c = desk.cards.get(card);
            if (c.machine != machine || c.truth == null) continue;
            for (int place = 0; place < 12; place++) {
                int without = c.read(place) - dirt(card, place, desk.numbers.get(0));
                if (what == 0) sum += c.read(place) != c.seen(place) ? 1 : 0;
                if (what == 1) sum += Math.abs(c.read(place) - c.seen(place));
                if (what == 2) sum += Math.abs(c.seen(place) - without);
            }
        }
        return sum;
    }

    int byLength(int length) {
        if (out(length, 2, 9)) return INVALID;
        List<List<Integer>> now = outcomesNow();
        int found = 0;
        for (int card = 0; card < now.size(); card++) {
            if (!now.get(card).equals(outcomes(card, length))) found++;
        }
        return found;
    }

    int drawn(int seed) {
        if (out(seed, 0, 65536)) return INVALID;
        List<Integer> pool = pool();
        return pool.isEmpty() ? NONE : pool.get((int) ((75L * seed + 74) % 65537 % pool.size()));
    }

    int seedFor(int card) {
        if (out(card, 0, desk.cards.size() - 1)) return INVALID;
        List<Integer> pool = pool();
        if (!pool.contains(card)) return NONE;
        int seed = 0;
        while (pool.get((int) ((75L * seed + 74) % 65537 % pool.size())) != card) seed++;
        return seed;
    }

    // ---- what the terms say

    private List<Integer> runOf(int card, int place) {
        List<Integer> run = new ArrayList<>();
        Card own = desk.cards.get(card);
        if (own.read(place) == 0) return run;
        boolean past = false;
        for (int other = 0; other < desk.cards.size(); other++) {
            Card c = desk.cards.get(other);
            if (c.machine != own.machine || c.epoch != own.epoch) continue;
            if (c.read(place) > 0) {
                run.add(other);
                past |= other == card;
            } else if (past) {
                return run;
            } else {
                run.clear();
            }
        }
        return run;
    }

    private int dirt(int card, int place, int least) {
        List<Integer> run = runOf(card, place);
        if (run.size() < least || run.isEmpty()) return 0;
        int dirt = 9;
        for (int number : run) {
            Card c = desk.cards.get(number);
            dirt = Math.min(dirt, c.read(place));
            if (c.truth != null) dirt = Math.min(dirt, Math.max(c.read(place) - c.seen(place), 0));
        }
        return dirt;
    }

    private int clear(int card, int place, int least) {
        Card c = desk.cards.get(card);
        return c.truth != null ? c.seen(place) : c.read(place) - dirt(card, place, least);
    }

    private int mark(int card, int place, int least) {
        int clear = clear(card, place, least);
        if (clear >= desk.numbers.get(1)) return 2;
        return desk.cards.get(card).truth == null && clear >= desk.numbers.get(2) ? 1 : 0;
    }

    private List<Integer> outcomes(int card, int least) {
        List<Integer> outcomes = new ArrayList<>();
        for (int contest = 0; contest < 4; contest++) {
            List<Integer> marked = new ArrayList<>();
            boolean doubt = false;
            for (int choice = 0; choice < 3; choice++) {
                int mark = mark(card, 3 * contest + choice, least);
                if (mark == 2) marked.add(choice);
                doubt |= mark == 1;
            }
            outcomes.add(marked.size() > 1 ? 4 : doubt ? 5 : marked.isEmpty() ? 3 : marked.get(0));
        }
        return outcomes;
    }

    private List<List<Integer>> outcomesNow() {
        List<List<Integer>> outcomes = new ArrayList<>();
        for (int card = 0; card < desk.cards.size(); card++) outcomes.add(outcomes(card, desk.numbers.get(0)));
        return outcomes;
    }

    private static int difference(List<Integer> some, List<Integer> others) {
        int set = 0;
        for (int contest = 0; contest < 4; contest++) {
            if (!some.get(contest).equals(others.get(contest))) set += 1 << contest;
        }
        return set;
    }

    private List<Integer> changing() {
        List<Integer> cards = new ArrayList<>();
        if (desk.versions.isEmpty()) return cards;
        List<List<Integer>> last = desk.versions.get(desk.versions.size() - 1);
        List<List<Integer>> now = outcomesNow();
        for (int card = 0; card < last.size(); card++) {
            if (!last.get(card).equals(now.get(card))) cards.add(card);
        }
        return cards;
    }

    private int doubtful(int card) {
        List<Integer> outcomes = outcomes(card, desk.numbers.get(0));
        int set = 0;
        for (int contest = 0; contest < 4; contest++) {
            if (outcomes.get(contest) == 5) set += 1 << contest;
        }
        return set;
    }

    private List<Integer> pool() {
        List<Integer> changing = changing();
        List<Integer> pool = new ArrayList<>();
        for (int card = 0; card < desk.cards.size(); card++) {
            if (!desk.cards.get(card).drawn && (doubtful(card) != 0 || changing.contains(card))) pool.add(card);
        }
        return pool;
    }

    private int streaks() {
        int streaks = 0;
        for (int card = 0; card < desk.cards.size(); card++) {
            for (int place = 0; place < 12; place++) {
                List<Integer> run = runOf(card, place);
                if (!run.isEmpty() && run.get(0) == card && run.size() >= desk.numbers.get(0)) streaks++;
            }
        }
        return streaks;
    }
}
