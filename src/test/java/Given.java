import java.util.function.Supplier;

/** Tallies in states that several tests begin with, and what can be seen of a tally. */
class Given {
    static final int INVALID = SmudgeTally.INVALID_ARGUMENT;
    static final int ILLEGAL = SmudgeTally.ILLEGAL_STATE;
    static final int FULL = SmudgeTally.CAPACITY_EXCEEDED;
    static final int NONE = SmudgeTally.NONE;
    static final long MOST = 999999999999L;

    /** A row that is dark at one place alone. */
    static long dark(int place, int value) {
        long row = value;
        for (int next = place; next < 11; next++) row *= 10;
        return row;
    }

    static SmudgeTally scanned(int machine, long... rows) {
        SmudgeTally x = new SmudgeTally();
        for (long row : rows) x.scan(machine, row);
        return x;
    }

    /** Steps such as "a5" for a card of machine 0 whose place 0 is 5, "b0" for one of machine 1, "a!" for a cleaning. */
    static SmudgeTally played(String steps) {
        SmudgeTally x = new SmudgeTally();
        play(x, steps);
        return x;
    }

    static void play(SmudgeTally x, String steps) {
        for (String step : steps.split(" ")) {
            int machine = step.charAt(0) - 'a';
            if (step.charAt(1) == '!') x.clean(machine);
            else x.scan(machine, dark(0, step.charAt(1) - '0'));
        }
    }

    /** So many cards of machine 0, each doubtful in the contest 0 and of no streak. */
    static SmudgeTally doubtful(int cards) {
        SmudgeTally x = new SmudgeTally();
        for (int card = 0; card < cards; card++) {
            x.scan(0, dark(0, 5));
            x.clean(0);
        }
        return x;
    }

    /** Three doubtful cards of machine 0, published, with a fourth that makes a streak: three would change. */
    static SmudgeTally smudged() {
        SmudgeTally x = scanned(0, dark(0, 5), dark(0, 5), dark(0, 5));
        x.publish();
        x.scan(0, dark(0, 5));
        return x;
    }

    /** So many cards of machine 0, whose mark in the contest 0 would be gone in the next version. */
    static SmudgeTally changing(int cards) {
        SmudgeTally x = new SmudgeTally();
        for (int card = 0; card < cards; card++) {
            x.scan(0, dark(0, 6));
            x.clean(0);
        }
        x.publish();
        x.set(2, 9);
        x.set(1, 9);
        return x;
    }

    static int onlyDrawn(SmudgeTally x) {
        int card = 0;
        while (card < 39 && x.card(card, 3) != 1) card++;
        return card;
    }

    static void write(SmudgeTally x, String text) {
        for (int i = 0; i < text.length(); i++) x.append(text.charAt(i));
    }

    static int ran(SmudgeTally x, String text) {
        x.clearText();
        write(x, text);
        return x.run();
    }

    /** All that a tally answers, at most four of its cards looked into. */
    static String everything(Supplier<SmudgeTally> made) {
        StringBuilder told = new StringBuilder(everythingElse(made));
        SmudgeTally x = made.get();
        for (int what = 0; what < 4; what++) told.append("\nfailure ").append(x.failure(what));
        told.append("\nrun ").append(x.run()).append(' ').append(x.failure(0)).append(x.failure(1));
        tell(told, x, 1);
        return told.toString();
    }

    /** The same without the failure and what the text says; undo, the slots and scan() bring to light what is hidden. */
    static String everythingElse(Supplier<SmudgeTally> made) {
        StringBuilder told = new StringBuilder();
        SmudgeTally x = made.get();
        tell(told, x, 12);
        while (x.undo() >= 0) tell(told.append("\nundo "), x, 1);
        SmudgeTally y = made.get();
        for (int slot = 0; slot < 2; slot++) tell(told.append("\nrestore ").append(y.restore(slot)).append(": "), y, 2);
        SmudgeTally z = made.get();
        for (int machine = 0; machine < 3; machine++) {
            told.append("\ncleanings ").append(z.card(z.scan(machine, 1), 2));
        }
        return told.toString();
    }

    private static void tell(StringBuilder told, SmudgeTally x, int places) {
        for (int what = 0; what < 15; what++) told.append(x.count(what)).append(' ');
        int cards = x.count(0);
        int version = x.count(4) - 1;
        for (int card = 0; card < cards; card += card == 1 && cards > 4 ? cards - 3 : 1) {
            told.append("\n  card ").append(card).append(':');
            for (int what = 0; what < 4; what++) told.append(' ').append(x.card(card, what));
            for (int place = 0; place < places; place++) {
                told.append(' ').append(x.place(card, place, 0)).append(x.place(card, place, 2));
            }
            told.append(' ').append(x.outcome(card, 0, -1)).append(x.outcome(card, 0, version));
        }
        told.append(' ').append(x.changed(version, 0, 0));
    }
}
