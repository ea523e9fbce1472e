import java.util.function.Supplier;
import java.util.function.ToIntFunction;

/** Each sentence of the document's promises by itself: every range, every answer, every error that is listed. */
public final class ClausesTest extends Given {
    private static final Sentences said = new Sentences("Promise ");
    private static final int[] FAR = {Integer.MIN_VALUE, Integer.MIN_VALUE + 1, -1000, 1000, 65536, Integer.MAX_VALUE};

    public static void main(String[] args) {
        newObject();
        scan();
        clean();
        set();
        publish();
        draw();
        look();
        take();
        restore();
        undo();
        append();
        clearText();
        run();
        failure();
        count();
        countOfVersions();
        countOfOthers();
        card();
        cardInContests();
        place();
        runAt();
        outcome();
        tally();
        changed();
        leader();
        error();
        byLength();
        drawn();
        seedFor();
        said.end();
    }

    private static void due(String what, long is, long due) {
        said.due(what, is, due);
    }

    /** The call records the state before it, and that is the one that undo() comes back to. */
    private static void isAction(Supplier<SmudgeTally> made, ToIntFunction<SmudgeTally> call) {
        said.says("This is an action.");
        SmudgeTally x = made.get();
        int states = x.count(9);
        due("succeeds", Math.min(0, call.applyAsInt(x)), 0);
        due("states", x.count(9), states + 1);
        due("undo", x.undo(), states);
        said.due("the state", everything(() -> {
            SmudgeTally y = made.get();
            call.applyAsInt(y);
            y.undo();
            return y;
        }), everything(made));
    }

    private static void newObject() {
        said.section("Promise 1: A new object");
        said.says("`SmudgeTally()`: Creates a tally without cards,");
        due("cards", new SmudgeTally().count(0), 0);
        due("card", new SmudgeTally().card(0, 0), INVALID);
        due("no cards to publish", new SmudgeTally().publish(), ILLEGAL);
        int[] counts = {0, 0, 0, 0, 0, 0, 0, 0, 0, 0, 0, 4, 6, 4, 5};
        for (int what = 0; what < 15; what++) due("count(" + what + ")", new SmudgeTally().count(what), counts[what]);
        SmudgeTally other = scanned(0, MOST);
        due("its own cards", new SmudgeTally().count(0), 0);
        due("cards of another", other.count(0), 1);
        said.says("with an empty text.");
        due("length", new SmudgeTally().count(10), 0);
        due("clearText", new SmudgeTally().clearText(), 0);
        due("the first character", new SmudgeTally().append('a'), 1);
    }

    private static void scan() {
        said.section("Promise 2: scan");
        said.says("`int scan(int machine, long row)`: Scans a card.");
        SmudgeTally x = new SmudgeTally();
        x.scan(1, 123456789012L);
        due("cards", x.count(0), 1);
        due("machine", x.card(0, 0), 1);
        due("place 10", x.place(0, 10, 0), 1);
        due("not drawn", x.card(0, 3), 0);
        isAction(() -> doubtful(1), y -> y.scan(2, 5));
        said.says("- `machine`: 0 to 2");
        said.range("machine", machine -> new SmudgeTally().scan(machine, 0), 0, 2);
        said.says("- `row`: what is read, 0 to 999999999999");
        for (long row : new long[] {-1, MOST + 1, Long.MIN_VALUE, Long.MAX_VALUE, 1L << 40, -MOST, -(1L << 32)}) {
            due("row " + row, new SmudgeTally().scan(0, row), INVALID);
        }
        for (long row : new long[] {0, 1, MOST, MOST - 1, 1L << 39, 1L << 31}) due("row " + row, new SmudgeTally().scan(0, row), 0);
        said.says("Returns the number of the card;");
        SmudgeTally z = new SmudgeTally();
        for (int card = 0; card < 40; card++) due("card", z.scan(card % 2, 0), card);
        said.says("INVALID_ARGUMENT if an argument is out of range;");
        due("machine", new SmudgeTally().scan(3, 0), INVALID);
        due("row", new SmudgeTally().scan(0, -1), INVALID);
        due("both", new SmudgeTally().scan(-1, MOST + 1), INVALID);
        said.says("CAPACITY_EXCEEDED if there are 40 cards.");
        due("41st", z.scan(0, 0), FULL);
        due("cards", z.count(0), 40);
        z.undo();
        due("40th", z.scan(0, 0), 39);
        due("41st", z.scan(2, MOST), FULL);
    }

    private static void clean() {
        said.section("Promise 3: clean");
        said.says("`int clean(int machine)`: Cleans a machine.");
        SmudgeTally x = played("a5 b5 a! a5 b5");
        due("its run is cut", x.runAt(2, 0, 2), 1);
        due("no other one", x.runAt(3, 0, 2), 2);
        due("cleanings before", x.card(2, 2), 1);
        isAction(() -> doubtful(2), y -> y.clean(1));
        said.says("- `machine`: 0 to 2");
        said.range("machine", machine -> new SmudgeTally().clean(machine), 0, 2);
        said.says("Returns the number of cards that it has scanned so far;");
        due("none", new SmudgeTally().clean(0), 0);
        SmudgeTally y = played("a5 b5 a0 a! a5 c5 a5");
        due("also those before another cleaning", y.clean(0), 4);
        due("machine 1", y.clean(1), 1);
        due("machine 2", y.clean(2), 1);
        due("all forty", scanned(2, new long[40]).clean(2), 40);
        due("none of forty", scanned(2, new long[40]).clean(1), 0);
        said.says("INVALID_ARGUMENT if machine is out of range.");
        due("-1", y.clean(-1), INVALID);
        due("3", y.clean(3), INVALID);
    }

    private static void set() {
        said.section("Promise 4: set");
        said.says("`int set(int what, int value)`: Sets a number.");
        SmudgeTally x = new SmudgeTally();
        x.set(0, 7);
        x.set(1, 8);
        x.set(2, 9);
        x.set(3, 17);
        int[] set = {7, 8, 9, 17};
        for (int what = 0; what < 4; what++) due("count", x.count(11 + what), set[what]);
        isAction(() -> doubtful(2), y -> y.set(1, 5));
        String[] ranges = {"- `what`: 0 for the least length of a streak (2 to 9)", "1 for the bound of marks (1 to 9)",
            "2 for the bound of doubts (1 to 9)", "3 for the limit (0 to 20)"};
        int[] least = {2, 1, 1, 0};
        int[] most = {9, 9, 9, 20};
        for (int what = 0; what < 4; what++) {
            int number = what;
            said.says(ranges[what]);
            said.range("value of " + what, value -> new SmudgeTally().set(number, value), least[what], most[what]);
            for (int value = least[what]; value <= most[what]; value++) {
                SmudgeTally y = new SmudgeTally();
                y.set(what, value);
                due("it stays at " + value, y.count(11 + what), value);
            }
        }
        said.says("- `value`: the new number");
        due("the marks follow", afterSet(1, 5), 2);
        due("the doubts follow", afterSet(2, 6), 0);
        due("the streaks follow", streaksAfterSet(2), 1);
        due("the limit follows", limitAfterSet(6), 6);
        said.says("Returns the previous number;");
        int[] first = {4, 6, 4, 5};
        for (int what = 0; what < 4; what++) {
            SmudgeTally y = new SmudgeTally();
            due("at first", y.set(what, most[what]), first[what]);
            due("then", y.set(what, least[what]), most[what]);
            due("the same", y.set(what, least[what]), least[what]);
        }
        said.says("INVALID_ARGUMENT if an argument is out of range.");
        said.range("what", what -> new SmudgeTally().set(what, 5), 0, 3);
        due("both", new SmudgeTally().set(4, 21), INVALID);
        SmudgeTally z = new SmudgeTally();
        due("20 for another number", z.set(0, 20) + z.set(1, 20) + z.set(2, 20), 3 * INVALID);
    }

    private static int afterSet(int what, int value) {
        SmudgeTally x = scanned(0, 5);
        x.set(what, value);
        return x.place(0, 11, 4);
    }

    private static int streaksAfterSet(int length) {
        SmudgeTally x = scanned(0, 5, 5);
        x.set(0, length);
        return x.count(7);
    }

    private static int limitAfterSet(int limit) {
        SmudgeTally x = changing(6);
        x.set(3, limit);
        return x.publish();
    }

    private static void publish() {
        said.section("Promise 5: publish");
        said.says("`int publish()`: Publishes a version.");
        SmudgeTally x = scanned(0, dark(0, 6));
        x.publish();
        due("versions", x.count(4), 1);
        due("its outcome", x.outcome(0, 0, 0), 0);
        isAction(() -> doubtful(2), y -> y.publish());
        said.says("Returns the number of cards that have changed in it;");
        due("none in the first", doubtful(40).publish(), 0);
        due("none in the next", x.publish(), 0);
        for (int cards = 1; cards <= 5; cards++) due("all of " + cards, changing(cards).publish(), cards);
        due("one that was looked at", changedByLook(), 1);
        due("40", allChange(), 40);
        said.says("ILLEGAL_STATE if there is no card,");
        due("no card", new SmudgeTally().publish(), ILLEGAL);
        SmudgeTally z = scanned(0, 0);
        z.undo();
        due("no card any more", z.publish(), ILLEGAL);
        z.scan(0, 0);
        due("one blank card", z.publish(), 0);
        said.says("or it cannot be published because of the limit;");
        due("five", changing(5).publish(), 5);
        due("six", changing(6).publish(), ILLEGAL);
        due("40", changing(40).publish(), ILLEGAL);
        said.says("CAPACITY_EXCEEDED if there are 6 versions.");
        for (int version = 2; version < 6; version++) due("version " + version, x.publish(), 0);
        due("seventh", x.publish(), FULL);
        x.undo();
        due("room again", x.publish(), 0);
        due("seventh", x.publish(), FULL);
    }

    private static int changedByLook() {
        SmudgeTally x = doubtful(1);
        x.publish();
        x.set(3, 0);
        x.draw(0, 1);
        x.look(0, 0);
        return x.publish();
    }

    private static int allChange() {
        SmudgeTally x = changing(40);
        x.draw(0, 40);
        for (int card = 0; card < 40; card++) x.look(card, 6);
        return x.publish();
    }

    private static void draw() {
        said.section("Promise 6: draw");
        said.says("`int draw(int seed, int many)`: Draws cards by lot.");
        SmudgeTally x = doubtful(4);
        x.draw(0, 2);
        // From 0: 74 and 5624; left over by 4 and 3: 2, 2.
        int[] stages = {0, 0, 1, 1};
        for (int card = 0; card < 4; card++) due("card " + card, x.card(card, 3), stages[card]);
        isAction(() -> doubtful(2), y -> y.draw(0, 1));
        said.says("- `seed`: 0 to 65536");
        said.range("seed", seed -> doubtful(1).draw(seed, 1), 0, 65536);
        said.says("- `many`: 1 to 40");
        said.range("many", many -> doubtful(40).draw(0, many), 1, 40);
        said.says("Returns the number of cards that are drawn and have not been looked at, then;");
        due("all", x.draw(0, 2), 4);
        x.look(0, 0);
        x.scan(1, dark(0, 5));
        due("without that which was looked at", x.draw(0, 1), 4);
        due("40", doubtful(40).draw(65536, 40), 40);
        said.says("INVALID_ARGUMENT if an argument is out of range;");
        due("seed", doubtful(1).draw(-1, 1), INVALID);
        due("many", doubtful(1).draw(0, 0), INVALID);
        due("many", doubtful(1).draw(0, 41), INVALID);
        due("both", doubtful(1).draw(65537, 41), INVALID);
        said.says("ILLEGAL_STATE if the pool has not so many cards.");
        due("none", scanned(0, 0).draw(0, 1), ILLEGAL);
        for (int cards = 1; cards < 40; cards += 19) {
            due("one more than " + cards, doubtful(cards).draw(0, cards + 1), ILLEGAL);
            due("just " + cards, doubtful(cards).draw(0, cards), cards);
        }
        SmudgeTally y = doubtful(3);
        y.draw(0, 2);
        due("drawn ones are in no pool", y.draw(0, 2), ILLEGAL);
        due("and no card more is drawn", y.count(2), 2);
    }

    private static void look() {
        said.section("Promise 7: look");
        said.says("`int look(int card, long row)`: Tells what was seen when a card was looked at.");
        SmudgeTally x = doubtful(2);
        x.draw(0, 2);
        x.look(1, 60000000000L);
        due("truth", x.place(1, 1, 2), 6);
        due("outcome", x.outcome(1, 0, -1), 1);
        due("the other one", x.place(0, 1, 2), NONE);
        isAction(() -> {
            SmudgeTally y = doubtful(1);
            y.draw(0, 1);
            return y;
        }, y -> y.look(0, MOST));
        said.says("- `card`: a card");
        said.range("card", card -> {
            SmudgeTally y = doubtful(3);
            y.draw(0, 3);
            return y.look(card, 0);
        }, 0, 2);
        said.says("- `row`: the truth, 0 to 999999999999");
        for (long row : new long[] {-1, MOST + 1, Long.MIN_VALUE, Long.MAX_VALUE, 1L << 40, -MOST}) {
            due("row " + row, lookAtOne(row), INVALID);
        }
        due("row 0", lookAtOne(0), 1);
        due("the greatest row", lookAtOne(MOST), 15);
        said.says("Returns the set of contests in which the outcome of this card becomes another one;");
        long[] rows = {0, dark(0, 6), dark(1, 6), dark(3, 6), dark(6, 6), dark(11, 6), 6006006006L, dark(9, 5), 660000000000L};
        int[] sets = {1, 1, 1, 3, 5, 9, 15, 1, 1};
        for (int i = 0; i < rows.length; i++) due("truth " + rows[i], lookAtOne(rows[i]), sets[i]);
        SmudgeTally blank = changing(1);
        blank.draw(0, 1);
        due("what stays blank", blank.look(0, 5), 0);
        SmudgeTally mark = changing(1);
        mark.draw(0, 1);
        mark.set(1, 6);
        due("what stays marked", mark.look(0, dark(0, 9)), 0);
        due("the outcome before is that of now, not of the version", lookAfterPublishing(), 0);
        said.says("INVALID_ARGUMENT if an argument is out of range;");
        due("card", x.look(2, 0), INVALID);
        due("row", x.look(0, MOST + 1), INVALID);
        due("both", x.look(-1, -1), INVALID);
        due("no cards", new SmudgeTally().look(0, 0), INVALID);
        said.says("ILLEGAL_STATE if the card has not been drawn,");
        due("in the pool", doubtful(1).look(0, 0), ILLEGAL);
        due("not in the pool", scanned(0, 0).look(0, 0), ILLEGAL);
        said.says("or has been looked at.");
        due("again", x.look(1, 60000000000L), ILLEGAL);
        due("again with another truth", x.look(1, 0), ILLEGAL);
        due("the other one", x.look(0, 0), 1);
    }

    private static int lookAtOne(long row) {
        SmudgeTally x = doubtful(1);
        x.draw(0, 1);
        return x.look(0, row);
    }

    private static int lookAfterPublishing() {
        SmudgeTally x = changing(1);
        x.draw(0, 1);
        return x.look(0, 0);
    }

    private static void take() {
        said.section("Promise 8: take");
        said.says("`int take(int slot)`: Takes a snapshot,");
        SmudgeTally x = scanned(0, 1);
        x.take(0);
        x.scan(0, 2);
        due("snapshots", x.count(8), 1);
        due("restore", x.restore(0), 1);
        said.says("in place of one that is there.");
        x.scan(0, 3);
        x.take(0);
        x.scan(0, 4);
        due("snapshots", x.count(8), 1);
        due("restore", x.restore(0), 2);
        due("the last card", x.place(1, 11, 0), 3);
        isAction(() -> doubtful(2), y -> y.take(1));
        said.says("- `slot`: 0 or 1");
        said.range("slot", slot -> new SmudgeTally().take(slot), 0, 1);
        said.says("Returns the number of cards;");
        due("none", new SmudgeTally().take(1), 0);
        due("three", doubtful(3).take(0), 3);
        due("40", scanned(0, new long[40]).take(1), 40);
        said.says("INVALID_ARGUMENT if slot is out of range.");
        due("-1", x.take(-1), INVALID);
        due("2", x.take(2), INVALID);
    }

    private static void restore() {
        said.section("Promise 9: restore");
        said.says("`int restore(int slot)`: Restores a snapshot,");
        SmudgeTally x = scanned(0, 7);
        x.take(1);
        x.scan(0, 8);
        x.set(0, 9);
        x.restore(1);
        due("cards", x.count(0), 1);
        due("least length", x.count(11), 4);
        said.says("which stays.");
        x.scan(0, 9);
        x.publish();
        due("snapshots", x.count(8), 1);
        due("again", x.restore(1), 1);
        due("again", x.restore(1), 1);
        due("its card", x.place(0, 11, 0), 7);
        isAction(() -> {
            SmudgeTally y = doubtful(1);
            y.take(1);
            y.scan(1, MOST);
            return y;
        }, y -> y.restore(1));
        said.says("- `slot`: 0 or 1");
        said.range("slot", slot -> {
            SmudgeTally y = new SmudgeTally();
            y.take(0);
            y.take(1);
            return y.restore(slot);
        }, 0, 1);
        said.says("Returns the number of cards then;");
        SmudgeTally z = new SmudgeTally();
        z.take(0);
        for (int card = 0; card < 40; card++) z.scan(0, 0);
        z.take(1);
        due("none", z.restore(0), 0);
        due("40", z.restore(1), 40);
        said.says("INVALID_ARGUMENT if slot is out of range;");
        due("-1", x.restore(-1), INVALID);
        due("2", x.restore(2), INVALID);
        said.says("ILLEGAL_STATE if the slot is empty.");
        due("slot 0", x.restore(0), ILLEGAL);
        due("slot 1 is not", x.restore(1), 1);
        due("both", new SmudgeTally().restore(0) + new SmudgeTally().restore(1), 2 * ILLEGAL);
        SmudgeTally undone = new SmudgeTally();
        undone.take(0);
        undone.undo();
        due("empty again", undone.restore(0), ILLEGAL);
    }

    private static void undo() {
        said.section("Promise 10: undo");
        said.says("`int undo()`: Removes the latest state from the history and restores it.");
        SmudgeTally x = scanned(0, 1, 2, 3);
        x.undo();
        due("cards", x.count(0), 2);
        due("states", x.count(9), 2);
        x.undo();
        due("cards", x.count(0), 1);
        x.scan(0, 4);
        due("the new card", x.place(1, 11, 0), 4);
        due("states", x.count(9), 2);
        said.says("Returns the number of states that are left in the history;");
        SmudgeTally y = scanned(0, 1, 2, 3, 4, 5, 6, 7, 8);
        for (int left = 4; left >= 0; left--) due("left", y.undo(), left);
        said.says("ILLEGAL_STATE if it is empty.");
        due("empty", y.undo(), ILLEGAL);
        due("cards", y.count(0), 3);
        due("empty", new SmudgeTally().undo(), ILLEGAL);
        y.scan(0, 0);
        due("not empty", y.undo(), 0);
        due("empty again", y.undo(), ILLEGAL);
    }

    private static void append() {
        said.section("Promise 11: append");
        said.says("`int append(int character)`: Appends a character to the text.");
        SmudgeTally x = new SmudgeTally();
        write(x, "clean 0");
        due("run", x.run(), -1007);
        x.append(';');
        due("run", x.run(), 1);
        said.says("- `character`: character code, 1 to 255");
        said.range("character", sign -> new SmudgeTally().append(sign), 1, 255);
        for (int sign = 1; sign <= 255; sign++) due("sign " + sign, new SmudgeTally().append(sign), 1);
        said.says("Returns the new length of the text;");
        SmudgeTally y = new SmudgeTally();
        for (int length = 1; length <= 140; length++) due("length", y.append(length), length);
        said.says("INVALID_ARGUMENT if character is out of range;");
        due("0", x.append(0), INVALID);
        due("256", x.append(256), INVALID);
        due("-1", x.append(-1), INVALID);
        due("a code that is 97 in one byte", x.append(256 + 97), INVALID);
        due("length", x.count(10), 0);
        said.says("CAPACITY_EXCEEDED if the text already has 140 characters.");
        due("141st", y.append(1), FULL);
        due("141st", y.append(255), FULL);
        due("length", y.count(10), 140);
        y.clearText();
        due("room again", y.append(1), 1);
    }

    private static void clearText() {
        said.section("Promise 12: clearText");
        said.says("`int clearText()`: Makes the text empty.");
        SmudgeTally x = new SmudgeTally();
        write(x, "publish;");
        x.clearText();
        due("length", x.count(10), 0);
        due("nothing to run", x.run(), 0);
        said.says("Returns the previous length of the text.");
        for (int length : new int[] {0, 1, 2, 139, 140}) {
            SmudgeTally y = new SmudgeTally();
            write(y, " ".repeat(length));
            due("length", y.clearText(), length);
            due("again", y.clearText(), 0);
        }
    }

    private static void run() {
        said.section("Promise 13: run");
        said.says("`int run()`: Runs the text as a program.");
        SmudgeTally x = new SmudgeTally();
        ran(x, "scan 2 500000000000;publish;draw 0 1;look 0 600000000000;clean 2;");
        due("cards", x.count(0), 1);
        due("versions", x.count(4), 1);
        due("looked at", x.count(1), 1);
        due("outcome", x.outcome(0, 0, -1), 0);
        x.scan(2, 0);
        due("cleaned", x.card(1, 2), 1);
        said.says("If it does not fail, this is one action,");
        SmudgeTally y = new SmudgeTally();
        ran(y, "clean 0;scan 0 000000000000;scan 0 000000000000;publish;publish;publish;publish;");
        due("states", y.count(9), 1);
        due("undo", y.undo(), 0);
        due("nothing of it", y.count(0) + y.count(4), 0);
        said.says("also without commands,");
        y.run();
        due("states", y.count(9), 1);
        ran(y, "    ");
        due("states", y.count(9), 2);
        said.says("and the text becomes empty;");
        write(y, "clean 0;");
        y.run();
        due("length", y.count(10), 0);
        write(y, "   ");
        y.run();
        due("length", y.count(10), 0);
        said.says("if it fails, the text is kept.");
        write(y, "clean 0;clean");
        due("fails", y.run(), -1013);
        due("length", y.count(10), 13);
        write(y, " 1;");
        due("and can be mended", y.run(), 2);
        write(y, "clean 3;");
        y.run();
        due("length", y.count(10), 8);
        said.says("Returns the number of commands;");
        for (int commands = 0; commands <= 17; commands++) due("commands", ran(doubtful(1), "clean 0;".repeat(commands)), commands);
        said.says("-1000 minus the place of the failure if it fails.");
        for (int place = 0; place < 140; place++) due("place", ran(doubtful(1), " ".repeat(place) + "x"), -1000 - place);
        due("behind the last one", ran(doubtful(1), "clean" + " ".repeat(135)), -1140);
    }

    private static void failure() {
        said.section("Promise 14: failure");
        said.says("`int failure(int what)`: Returns a part of the latest failure of a program");
        SmudgeTally x = new SmudgeTally();
        ran(x, "clean 0;clean 1 1;");
        due("the first", x.failure(1), 16);
        ran(x, "publish;");
        int[] latest = {2, 0, 0, ILLEGAL};
        for (int what = 0; what < 4; what++) due("the latest: " + what, x.failure(what), latest[what]);
        said.says("(which stays when a later one does not fail).");
        ran(x, "clean 0;");
        x.undo();
        x.clearText();
        for (int what = 0; what < 4; what++) due("stays: " + what, x.failure(what), latest[what]);
        said.says("- `what`: 0 its kind,");
        due("kind 1", partOf("y", 0), 1);
        due("kind 2", partOf("clean 3;", 0), 2);
        said.says("1 its place,");
        due("place", partOf("clean 0; y", 1), 9);
        due("place 140", partOf("clean" + " ".repeat(135), 1), 140);
        due("place of a word", partOf("  clean 3;", 1), 2);
        said.says("2 the number of commands that had been run before it,");
        due("none", partOf("clean 3;", 2), 0);
        due("two", partOf("clean 0;clean 0;clean 3;", 2), 2);
        due("16", partOf("clean 0;".repeat(16) + "clean 3;", 2), 16);
        due("17", partOf("clean 0;".repeat(17) + "x", 2), 17);
        said.says("3 the error code of the call (NONE for the kind 1)");
        due("invalid", partOf("clean 3;", 3), INVALID);
        due("illegal", partOf("publish;", 3), ILLEGAL);
        SmudgeTally full = scanned(0, new long[40]);
        ran(full, "scan 0 000000000000;");
        due("full", full.failure(3), FULL);
        ran(full, "scan");
        due("none", full.failure(3), NONE);
        said.says("Returns the part;");
        due("0", partOf("?", 1), 0);
        said.says("INVALID_ARGUMENT if what is out of range;");
        said.range("what", x::failure, 0, 3);
        said.range("what without a failure", what -> new SmudgeTally().failure(what), 0, 3);
        said.says("NONE if there was no failure yet.");
        SmudgeTally none = new SmudgeTally();
        ran(none, "clean 0;");
        none.publish();
        for (int what = 0; what < 4; what++) due("none: " + what, none.failure(what), NONE);
    }

    private static int partOf(String text, int what) {
        SmudgeTally x = new SmudgeTally();
        ran(x, text);
        return x.failure(what);
    }

    private static void count() {
        said.section("Promise 15: count");
        said.says("`int count(int what)`: Returns a number.");
        said.range("what", what -> new SmudgeTally().count(what), 0, 14);
        said.says("- `what`: 0 the number of cards,");
        due("none", new SmudgeTally().count(0), 0);
        SmudgeTally x = changing(40);
        due("40", x.count(0), 40);
        said.says("1 of cards that have been looked at,");
        due("none", x.count(1), 0);
        x.draw(0, 40);
        due("drawn", x.count(1), 0);
        for (int card = 0; card < 40; card++) {
            x.look(card, 0);
            due("looked at", x.count(1), card + 1);
        }
        said.says("2 of cards that are drawn and have not been looked at,");
        SmudgeTally y = changing(40);
        due("none", y.count(2), 0);
        y.draw(0, 40);
        due("all", y.count(2), 40);
        y.look(39, 0);
        y.look(0, 0);
        due("two were looked at", y.count(2), 38);
        said.says("3 of cards of the pool,");
        due("none", y.count(3), 0);
        due("all", changing(40).count(3), 40);
        due("all", doubtful(40).count(3), 40);
        SmudgeTally z = doubtful(3);
        z.draw(0, 1);
        due("without the drawn one", z.count(3), 2);
    }

    private static void countOfVersions() {
        said.says("4 of versions,");
        SmudgeTally x = scanned(0, 0);
        for (int versions = 0; versions <= 6; versions++) {
            due("versions", x.count(4), versions);
            x.publish();
        }
        due("not seven", x.count(4), 6);
        said.says("5 of cards that would change in a version published now,");
        due("none without a version", doubtful(5).count(5), 0);
        due("40", changing(40).count(5), 40);
        SmudgeTally y = changing(3);
        y.scan(0, dark(0, 9));
        due("no new card", y.count(5), 3);
        y.draw(0, 2);
        y.look(onlyDrawn(y), 0);
        due("also those that were looked at", y.count(5), 3);
        y.publish();
        due("none behind it", y.count(5), 0);
        said.says("6 of those of them that have not been looked at,");
        due("40", changing(40).count(6), 40);
        SmudgeTally z = changing(3);
        z.draw(0, 2);
        due("drawn ones, too", z.count(6), 3);
        z.look(onlyDrawn(z), 0);
        due("without the one that was looked at", z.count(6), 2);
        said.says("7 of streaks (of each place of each machine by itself),");
        due("one short", scanned(0, MOST, MOST, MOST).count(7), 0);
        due("12 places", scanned(0, MOST, MOST, MOST, MOST).count(7), 12);
        due("12 places, no more", scanned(0, MOST, MOST, MOST, MOST, MOST).count(7), 12);
        due("three machines", played("a5 b5 c5 a5 b5 c5 a5 b5 c5 a5 b5 c5").count(7), 3);
        due("two of a machine", played("a5 a5 a5 a5 a0 a5 a5 a5 a5").count(7), 2);
        due("two by a cleaning", played("a5 a5 a5 a5 a! a5 a5 a5 a5").count(7), 2);
        SmudgeTally many = new SmudgeTally();
        many.set(0, 2);
        for (int card = 0; card < 40; card++) {
            many.scan(0, MOST);
            if (card % 2 == 1) many.clean(0);
        }
        due("20 at 12 places", many.count(7), 240);
    }

    private static void countOfOthers() {
        said.says("8 of snapshots,");
        SmudgeTally x = new SmudgeTally();
        due("none", x.count(8), 0);
        x.take(1);
        x.take(1);
        due("one", x.count(8), 1);
        x.take(0);
        due("two", x.count(8), 2);
        said.says("9 of states in the history,");
        SmudgeTally y = new SmudgeTally();
        for (int states = 0; states <= 7; states++) {
            due("states", y.count(9), Math.min(5, states));
            y.clean(0);
        }
        y.undo();
        due("states", y.count(9), 4);
        said.says("10 the length of the text,");
        for (int length = 0; length <= 140; length++) {
            due("length", x.count(10), length);
            x.append('a');
        }
        due("no longer", x.count(10), 140);
        said.says("11 to 14 what set() sets for 0 to 3");
        int[] first = {4, 6, 4, 5};
        for (int what = 0; what < 4; what++) {
            due("at first", x.count(11 + what), first[what]);
            x.set(what, 9);
            due("then", x.count(11 + what), 9);
        }
        said.says("Returns the number;");
        due("a great one", scanned(0, new long[40]).count(0), 40);
        said.says("INVALID_ARGUMENT if what is out of range.");
        due("-1", x.count(-1), INVALID);
        due("15", x.count(15), INVALID);
        for (int what : FAR) due("what " + what, x.count(what), INVALID);
    }

    private static void card() {
        said.section("Promise 16: card");
        said.says("`int card(int card, int what)`: Tells about a card.");
        due("machine", scanned(2, 0).card(0, 0), 2);
        said.says("- `card`: a card");
        said.range("card", card -> doubtful(3).card(card, 0), 0, 2);
        said.range("card of forty", card -> scanned(0, new long[40]).card(card, 0), 0, 39);
        said.says("- `what`: 0 its machine,");
        SmudgeTally x = played("c5 a5 b5 c! c! a! c5 a5 c5");
        int[] machines = {2, 0, 1, 2, 0, 2};
        for (int card = 0; card < 6; card++) due("card " + card, x.card(card, 0), machines[card]);
        said.says("1 its place among the cards of this machine (from 0),");
        int[] places = {0, 0, 0, 1, 1, 2};
        for (int card = 0; card < 6; card++) due("card " + card, x.card(card, 1), places[card]);
        SmudgeTally many = scanned(1, new long[40]);
        for (int card = 0; card < 40; card++) due("card " + card, many.card(card, 1), card);
        said.says("2 how often this machine had been cleaned before it was scanned,");
        int[] cleanings = {0, 0, 0, 2, 1, 2};
        for (int card = 0; card < 6; card++) due("card " + card, x.card(card, 2), cleanings[card]);
        SmudgeTally clean = new SmudgeTally();
        for (int i = 0; i < 300; i++) clean.clean(0);
        clean.scan(0, 0);
        clean.clean(0);
        due("300", clean.card(0, 2), 300);
        said.says("3 0 if it is neither drawn nor looked at, 1 if it is drawn, 2 if it has been looked at,");
        SmudgeTally y = doubtful(2);
        due("neither", y.card(1, 3), 0);
        y.draw(0, 2);
        due("drawn", y.card(1, 3), 1);
        y.look(1, 0);
        due("looked at", y.card(1, 3), 2);
        due("drawn only", y.card(0, 3), 1);
    }

    private static void cardInContests() {
        said.says("4 the set of contests in which it is doubtful,");
        for (int set = 0; set < 16; set++) {
            long row = 0;
            for (int contest = 0; contest < 4; contest++) row += (set >> contest & 1) * dark(3 * contest + 1, 4);
            due("set " + set, scanned(1, row).card(0, 4), set);
        }
        due("marks are no doubts", scanned(1, 666060600900L).card(0, 4), 0);
        SmudgeTally x = scanned(0, 500400500400L, 500000000000L, 500000000000L);
        due("in all", x.card(0, 4), 15);
        x.set(2, 5);
        due("with a greater bound of doubts", x.card(0, 4), 5);
        x.scan(0, dark(0, 5));
        due("less the dirt", x.card(0, 4), 4);
        x.draw(0, 1);
        x.look(0, 500000500000L);
        due("looked at", x.card(0, 4), 0);
        said.says("5 1 if it is in the pool and 0 if not");
        SmudgeTally y = played("a5 a0 a6");
        due("doubtful", y.card(0, 5), 1);
        due("blank", y.card(1, 5), 0);
        due("marked", y.card(2, 5), 0);
        y.publish();
        y.set(2, 6);
        y.set(1, 7);
        int[] changed = {1, 0, 1};
        for (int card = 0; card < 3; card++) due("changed " + card, y.card(card, 5), changed[card]);
        y.draw(0, 2);
        for (int card = 0; card < 3; card++) due("drawn " + card, y.card(card, 5), 0);
        y.look(0, 0);
        due("looked at", y.card(0, 5), 0);
        said.says("Returns the value;");
        due("a great one", scanned(2, new long[40]).card(39, 1), 39);
        said.says("INVALID_ARGUMENT if there is no such card or what is out of range.");
        due("no such card", y.card(3, 0), INVALID);
        due("no such card", y.card(-1, 5), INVALID);
        due("no card", new SmudgeTally().card(0, 0), INVALID);
        said.range("what", what -> y.card(0, what), 0, 5);
        due("both", y.card(3, 6), INVALID);
    }

    private static void place() {
        said.section("Promise 17: place");
        said.says("`int place(int card, int place, int what)`: Tells about a place of a card.");
        due("place 0", scanned(0, 345678901299L).place(0, 0, 0), 3);
        said.says("- `card`: a card");
        said.range("card", card -> doubtful(3).place(card, 0, 0), 0, 2);
        said.range("card of forty", card -> scanned(0, new long[40]).place(card, 0, 0), 0, 39);
        said.says("- `place`: 0 to 11");
        said.range("place", place -> doubtful(3).place(2, place, 0), 0, 11);
        said.range("place of the last card", place -> scanned(0, new long[40]).place(39, place, 0), 0, 11);
        said.says("- `what`: 0 what was read,");
        SmudgeTally x = smudged();
        x.draw(0, 2);
        x.look(2, dark(0, 2));
        due("read", x.place(2, 0, 0), 5);
        due("read as 0", x.place(2, 1, 0), 0);
        for (int read = 0; read <= 9; read++) due("read", scanned(0, read).place(0, 11, 0), read);
        said.says("1 the dirt,");
        due("dirt", x.place(0, 0, 1), 3);
        due("no dirt", x.place(0, 1, 1), 0);
        due("as much as can be", played("a9 a9 a9 a9").place(0, 0, 1), 9);
        said.says("2 the truth (NONE if the card has not been looked at),");
        due("truth", x.place(2, 0, 2), 2);
        due("a truth of 0", x.place(2, 1, 2), 0);
        due("only drawn", x.place(0, 0, 2), NONE);
        due("not drawn", x.place(3, 0, 2), NONE);
        said.says("3 the clear value,");
        due("of the one that was looked at", x.place(2, 0, 3), 2);
        due("of another one", x.place(0, 0, 3), 2);
        due("0", played("a9 a9 a9 a9").place(0, 0, 3), 0);
        due("9", played("a9").place(0, 0, 3), 9);
        said.says("4 2 if it is marked, 1 if it is doubted, 0 if none of both");
        int[] marks = {0, 0, 0, 0, 1, 1, 2, 2, 2, 2};
        for (int read = 0; read <= 9; read++) due("mark of " + read, scanned(0, read).place(0, 11, 4), marks[read]);
        said.says("Returns the value;");
        due("0", scanned(0, 0).place(0, 11, 0), 0);
        said.says("INVALID_ARGUMENT if an argument is out of range.");
        said.range("what", what -> x.place(2, 0, what), 0, 4);
        due("card", x.place(4, 0, 0), INVALID);
        due("place", x.place(0, 12, 0), INVALID);
        due("a place of the next card", x.place(0, 13, 0), INVALID);
        due("place", x.place(1, -1, 0), INVALID);
        due("all three", x.place(4, 12, 5), INVALID);
        due("no card", new SmudgeTally().place(0, 0, 2), INVALID);
    }

    private static void runAt() {
        said.section("Promise 18: runAt");
        said.says("`int runAt(int card, int place, int what)`: Tells about the run to which a place of a card belongs.");
        SmudgeTally x = played("a1 b1 a1 a0 a1 a! a1 c1 a1");
        int[][] runs = {{0, 0, 2, 2}, {1, 1, 1, 1}, {2, 0, 2, 2}, {4, 4, 4, 1}, {5, 5, 7, 2}, {6, 6, 6, 1}, {7, 5, 7, 2}};
        for (int[] run : runs) due("a run of one counts, too", x.runAt(run[0], 0, 2), run[3]);
        said.says("- `card`: a card");
        said.range("card", card -> played("a1 a1 a1").runAt(card, 0, 0), 0, 2);
        said.says("- `place`: 0 to 11");
        said.range("place", place -> scanned(0, MOST, MOST).runAt(1, place, 0), 0, 11);
        String[] parts = {"- `what`: 0 the first card of the run,", "1 the last one,", "2 the number of its cards"};
        for (int what = 0; what < 3; what++) {
            said.says(parts[what]);
            for (int[] run : runs) due("card " + run[0], x.runAt(run[0], 0, what), run[1 + what]);
            int[] most = {0, 39, 40};
            for (int card = 0; card < 40; card += 13) due("of forty", alike(40).runAt(card, 11, what), most[what]);
        }
        said.says("Returns the value;");
        due("it does not hang on the least length", x.runAt(0, 0, 2), 2);
        said.says("INVALID_ARGUMENT if an argument is out of range;");
        said.range("what", what -> x.runAt(0, 0, what), 0, 2);
        said.range("what where 0 was read", what -> x.runAt(3, 0, what), 0, 2);
        due("card", x.runAt(8, 0, 0), INVALID);
        due("card", x.runAt(-1, 0, 0), INVALID);
        due("place", x.runAt(0, 12, 0), INVALID);
        due("no card", new SmudgeTally().runAt(0, 0, 0), INVALID);
        said.says("NONE if this place was read as 0.");
        for (int what = 0; what < 3; what++) {
            due("read as 0", x.runAt(3, 0, what), NONE);
            due("another place", x.runAt(0, 1, what), NONE);
        }
        SmudgeTally seen = doubtful(1);
        seen.draw(0, 1);
        seen.look(0, dark(1, 7));
        due("the truth is no matter", seen.runAt(0, 1, 0), NONE);
        due("the truth is no matter", seen.runAt(0, 0, 0), 0);
    }

    private static SmudgeTally alike(int cards) {
        SmudgeTally x = new SmudgeTally();
        for (int card = 0; card < cards; card++) x.scan(0, 1);
        return x;
    }

    private static void outcome() {
        said.section("Promise 19: outcome");
        said.says("`int outcome(int card, int contest, int version)`: Returns the outcome of a card in a contest.");
        SmudgeTally x = scanned(0, 600060006000L, 660050650000L);
        int[][] due = {{0, 1, 2, 3}, {4, 5, 5, 3}};
        for (int card = 0; card < 2; card++) {
            for (int contest = 0; contest < 4; contest++) due("outcome", x.outcome(card, contest, -1), due[card][contest]);
        }
        said.says("- `card`: a card");
        said.range("card", card -> doubtful(3).outcome(card, 0, -1), 0, 2);
        said.says("- `contest`: 0 to 3");
        said.range("contest", contest -> doubtful(3).outcome(0, contest, -1), 0, 3);
        said.says("- `version`: a version for the outcome in it,");
        x.publish();
        x.set(1, 7);
        x.publish();
        due("version 0", x.outcome(0, 0, 0), 0);
        due("version 1", x.outcome(0, 0, 1), 5);
        said.range("version", version -> x.outcome(0, 0, version), -1, 1);
        said.says("or -1 for that of now");
        x.set(2, 9);
        due("now", x.outcome(0, 0, -1), 3);
        due("not the last version", x.outcome(0, 0, 1), 5);
        said.says("Returns the outcome;");
        due("4 of version 0", x.outcome(1, 0, 0), 4);
        said.says("INVALID_ARGUMENT if an argument is out of range,");
        due("card", x.outcome(2, 0, -1), INVALID);
        due("contest", x.outcome(0, 4, -1), INVALID);
        due("contest", x.outcome(0, -1, 0), INVALID);
        due("version", x.outcome(0, 0, -2), INVALID);
        due("no card", new SmudgeTally().outcome(0, 0, -1), INVALID);
        said.says("or there is no such version;");
        due("version 2", x.outcome(0, 0, 2), INVALID);
        due("version 6", x.outcome(0, 0, 6), INVALID);
        due("no version", scanned(0, 1).outcome(0, 0, 0), INVALID);
        said.says("NONE if it is no card of this version.");
        x.scan(1, 0);
        due("version 0", x.outcome(2, 0, 0), NONE);
        due("version 1", x.outcome(2, 3, 1), NONE);
        x.publish();
        due("version 2", x.outcome(2, 0, 2), 3);
        due("still not of version 1", x.outcome(2, 0, 1), NONE);
        due("now", x.outcome(2, 0, -1), 3);
        due("the last card of version 1", x.outcome(1, 3, 1), 3);
    }

    private static void tally() {
        said.section("Promise 20: tally");
        said.says("`int tally(int contest, int outcome, int version, int machine)`: Counts the cards with an outcome in a"
            + " contest.");
        // The outcomes 0, 1, 2, 3, 4, 0, 5 in the contest 0; each other one is that of two cards.
        long[] rows = {600000000000L, 60000000000L, 6000000000L, 0, 666000000000L, 600500000000L, 500000000000L};
        SmudgeTally x = new SmudgeTally();
        for (int i = 0; i < 7; i++) {
            for (int machine = 0; machine <= i % 2; machine++) x.scan(machine, rows[i]);
            x.clean(0);
            x.clean(1);
        }
        int[] due = {1 + 2, 2, 1, 2, 1, 1};
        for (int outcome = 0; outcome < 6; outcome++) due("outcome " + outcome, x.tally(0, outcome, -1, -1), due[outcome]);
        said.says("- `contest`: 0 to 3");
        said.range("contest", contest -> x.tally(contest, 0, -1, -1), 0, 3);
        due("contest 1", x.tally(1, 5, -1, -1), 2);
        due("contest 3", x.tally(3, 3, -1, -1), 10);
        said.says("- `outcome`: 0 to 5");
        said.range("outcome", outcome -> x.tally(0, outcome, -1, -1), 0, 5);
        said.says("- `version`: a version, or -1 for now");
        x.publish();
        x.set(1, 7);
        x.scan(2, 0);
        due("version 0", x.tally(0, 0, 0, -1), 3);
        due("blank in version 0, without the new card", x.tally(0, 3, 0, -1), 2);
        due("now", x.tally(0, 0, -1, -1), 0);
        due("blank now", x.tally(0, 3, -1, -1), 3);
        said.range("version", version -> x.tally(0, 0, version, -1), -1, 0);
        said.says("- `machine`: 0 to 2 for the cards of this machine, or -1 for all");
        said.range("machine", machine -> x.tally(0, 0, 0, machine), -1, 2);
        int[] blanks = {1, 1, 1};
        for (int machine = 0; machine < 3; machine++) due("blank of " + machine, x.tally(0, 3, -1, machine), blanks[machine]);
        due("blank in version 0 of machine 2", x.tally(0, 3, 0, 2), 0);
        due("in version 0 of machine 0", x.tally(0, 0, 0, 0), 2);
        due("in version 0 of machine 1", x.tally(0, 0, 0, 1), 1);
        said.says("Returns the number of cards;");
        due("none", new SmudgeTally().tally(0, 3, -1, -1), 0);
        due("40", scanned(2, new long[40]).tally(3, 3, -1, 2), 40);
        said.says("INVALID_ARGUMENT if an argument is out of range,");
        due("contest", x.tally(4, 0, -1, -1), INVALID);
        due("outcome", x.tally(0, 6, -1, -1), INVALID);
        due("version", x.tally(0, 0, -2, -1), INVALID);
        due("machine", x.tally(0, 0, -1, 3), INVALID);
        due("machine", x.tally(0, 0, -1, -2), INVALID);
        due("no cards", new SmudgeTally().tally(-1, 0, -1, -1), INVALID);
        said.says("or there is no such version.");
        due("version 1", x.tally(0, 0, 1, -1), INVALID);
        due("no version", doubtful(1).tally(0, 0, 0, -1), INVALID);
        due("no cards", new SmudgeTally().tally(0, 0, 0, -1), INVALID);
    }

    private static void changed() {
        said.section("Promise 21: changed");
        said.says("`int changed(int version, int index, int what)`: Tells which cards have changed in a version.");
        SmudgeTally x = scanned(0, 500000000005L, 0, 60000000500L);
        x.publish();
        x.set(2, 6);
        x.publish();
        due("the first", x.changed(1, 0, 0), 0);
        due("the second", x.changed(1, 1, 0), 2);
        said.says("- `version`: a version");
        said.range("version", version -> x.changed(version, 0, 0), 0, 1);
        due("nothing in the first one", x.changed(0, 0, 0), NONE);
        said.says("- `index`: 0 or more: by ascending numbers of cards, from 0");
        SmudgeTally y = changing(40);
        y.set(3, 20);
        y.draw(0, 20);
        for (int card = 0; card < 40; card++) y.look(card, 0);
        y.publish();
        for (int index = 0; index < 40; index++) due("index " + index, y.changed(1, index, 0), index);
        due("behind all cards", y.changed(1, 40, 0), NONE);
        for (int index : new int[] {-1, -2, Integer.MIN_VALUE}) due("index " + index, y.changed(1, index, 0), INVALID);
        said.says("- `what`: 0 for the card,");
        due("card", x.changed(1, 1, 0), 2);
        said.says("1 for the set of contests in which its outcome is another one");
        due("contests 0 and 3", x.changed(1, 0, 1), 9);
        due("contest 3", x.changed(1, 1, 1), 8);
        for (int set = 1; set < 16; set++) due("set " + set, changedSet(set), set);
        said.says("Returns the value;");
        x.set(2, 4);
        x.publish();
        due("version 1 stays as it was", x.changed(1, 0, 1), 9);
        due("version 2", x.changed(2, 1, 1), 8);
        said.says("INVALID_ARGUMENT if there is no such version,");
        due("version 3", x.changed(3, 0, 0), INVALID);
        due("now is no version here", x.changed(-1, 0, 0), INVALID);
        due("no version", doubtful(1).changed(0, 0, 0), INVALID);
        said.says("index is negative");
        due("-1", x.changed(1, -1, 0), INVALID);
        due("far", x.changed(1, Integer.MIN_VALUE, 0), INVALID);
        said.says("or what is out of range;");
        said.range("what", what -> x.changed(1, 0, what), 0, 1);
        said.range("what behind the last", what -> x.changed(1, 2, what), 0, 1);
        said.says("NONE if not so many have changed.");
        due("third", x.changed(1, 2, 0), NONE);
        due("third", x.changed(1, 2, 1), NONE);
        due("far", x.changed(1, Integer.MAX_VALUE, 0), NONE);
        SmudgeTally same = scanned(0, 1);
        same.publish();
        same.scan(0, 5);
        same.publish();
        due("a new card has not changed", same.changed(1, 0, 0), NONE);
    }

    private static int changedSet(int set) {
        long row = 0;
        for (int contest = 0; contest < 4; contest++) row += (set >> contest & 1) * dark(3 * contest + 2, 5);
        SmudgeTally x = scanned(0, row);
        x.publish();
        x.set(1, 5);
        x.publish();
        return x.changed(1, 0, 1);
    }

    private static void leader() {
        said.section("Promise 22: leader");
        said.says("`int leader(int contest, int what)`: Tells about the choice with the most cards in a contest now,");
        int[][] votes = {{0, 0, 0}, {1, 0, 0}, {0, 1, 0}, {0, 0, 1}, {2, 3, 1}, {3, 1, 2}, {1, 2, 3}, {1, 3, 2}, {0, 13, 12}};
        int[] first = {0, 0, 1, 2, 1, 0, 2, 1, 1};
        for (int i = 0; i < votes.length; i++) due("leader", voted(votes[i], 0).leader(1, 0), first[i]);
        SmudgeTally x = voted(new int[] {0, 2, 0}, 0);
        x.publish();
        x.set(1, 7);
        due("now, not in the version", x.leader(1, 1), 0);
        due("blanks, too many marks and doubts are no choices", amongOthers().leader(1, 0), 2);
        said.says("of several the smallest.");
        int[][] ties = {{0, 0, 0}, {1, 1, 0}, {1, 0, 1}, {0, 1, 1}, {2, 2, 2}, {1, 2, 2}};
        int[] smallest = {0, 0, 0, 1, 0, 1};
        for (int i = 0; i < ties.length; i++) {
            due("leader", voted(ties[i], 0).leader(1, 0), smallest[i]);
            due("no lead", voted(ties[i], 0).leader(1, 1), 0);
        }
        said.says("- `contest`: 0 to 3");
        said.range("contest", contest -> voted(new int[] {1, 0, 0}, 0).leader(contest, 0), 0, 3);
        for (int place = 0; place < 12; place++) due("contest", scanned(0, dark(place, 6)).leader(place / 3, 0), place % 3);
        said.says("- `what`: 0 for this choice,");
        due("2", voted(new int[] {0, 1, 2}, 0).leader(1, 0), 2);
        said.says("1 for its cards less those of the choice that has most of the other two,");
        int[] leads = {0, 1, 1, 1, 1, 1, 1, 1, 1};
        for (int i = 0; i < votes.length; i++) due("lead", voted(votes[i], 0).leader(1, 1), leads[i]);
        due("the second is the first choice", voted(new int[] {3, 5, 1}, 0).leader(1, 1), 2);
        due("the second is the last choice", voted(new int[] {5, 1, 4}, 0).leader(1, 1), 1);
        due("all forty", voted(new int[] {0, 0, 40}, 0).leader(1, 1), 40);
        due("blanks, too many marks and doubts are no choices", amongOthers().leader(1, 1), 1);
        said.says("2 for the number of cards that are doubtful in this contest and have not been looked at,");
        due("none", voted(new int[] {1, 1, 1}, 0).leader(1, 2), 0);
        due("three", voted(new int[] {1, 1, 1}, 3).leader(1, 2), 3);
        due("another contest", voted(new int[] {1, 1, 1}, 3).leader(0, 2), 0);
        due("40", voted(new int[] {0, 0, 0}, 40).leader(1, 2), 40);
        SmudgeTally seen = voted(new int[] {0, 0, 0}, 2);
        seen.draw(0, 2);
        due("drawn ones are doubtful", seen.leader(1, 2), 2);
        seen.look(0, dark(3, 5));
        due("looked at", seen.leader(1, 2), 1);
        said.says("3 for 1 if the first number (1) is greater than the second one (2) and 0 if not");
        for (int doubts = 0; doubts < 6; doubts++) {
            due(doubts + " doubts", voted(new int[] {1, 4, 0}, doubts).leader(1, 3), doubts < 3 ? 1 : 0);
        }
        due("0 is not greater than 0", new SmudgeTally().leader(0, 3), 0);
        said.says("Returns the value;");
        due("no cards", new SmudgeTally().leader(3, 0), 0);
        said.says("INVALID_ARGUMENT if an argument is out of range.");
        said.range("what", what -> new SmudgeTally().leader(0, what), 0, 3);
        due("contest", new SmudgeTally().leader(4, 0), INVALID);
        due("both", new SmudgeTally().leader(-1, 4), INVALID);
    }

    /** So many cards for each choice of the contest 1, and so many that are doubtful in it. */
    private static SmudgeTally voted(int[] votes, int doubts) {
        SmudgeTally x = new SmudgeTally();
        for (int choice = 0; choice < 3; choice++) {
            for (int card = 0; card < votes[choice]; card++) {
                x.scan(0, dark(3 + choice, 6));
                x.clean(0);
            }
        }
        for (int card = 0; card < doubts; card++) {
            x.scan(0, dark(3, 5));
            x.clean(0);
        }
        return x;
    }

    /** One card for each choice and one more for the last, among more that are blank, doubtful or have too many marks. */
    private static SmudgeTally amongOthers() {
        SmudgeTally x = voted(new int[] {1, 1, 2}, 4);
        for (int card = 0; card < 4; card++) {
            x.scan(1, 0);
            x.scan(2, dark(3, 6) + dark(4, 6));
            x.clean(2);
        }
        return x;
    }

    private static void error() {
        said.section("Promise 23: error");
        said.says("`int error(int machine, int what)`: Tells how wrong what was read of the cards of a machine was.");
        SmudgeTally x = doubtful(2);
        x.scan(1, dark(1, 5));
        x.draw(0, 3);
        for (int what = 0; what < 3; what++) due("nothing was looked at", x.error(0, what), 0);
        x.look(1, 200000000009L);
        x.look(2, 70000000000L);
        due("machine 0", x.error(0, 1), 12);
        due("machine 1", x.error(1, 1), 2);
        due("machine 2", x.error(2, 1), 0);
        said.says("- `machine`: 0 to 2");
        said.range("machine", machine -> doubtful(1).error(machine, 0), 0, 2);
        said.says("- `what`: 0 for the number of places of its cards that have been looked at, at which what was read is"
            + " another number than the truth,");
        due("two places", x.error(0, 0), 2);
        due("one place", x.error(1, 0), 1);
        due("none", looked(5).error(0, 0), 0);
        due("one less", looked(4).error(0, 0), 1);
        due("one more", looked(6).error(0, 0), 1);
        due("all places of all cards", allWrong().error(2, 0), 480);
        said.says("1 for the sum of the sizes of these differences,");
        for (int truth = 0; truth <= 9; truth++) due("truth " + truth, looked(truth).error(0, 1), Math.abs(truth - 5));
        due("all places of all cards", allWrong().error(2, 1), 480 * 8);
        said.says("2 for the sum of the sizes of the differences between the truth and what was read less the dirt, at all"
            + " places of these cards");
        due("no streak", x.error(0, 2), 12);
        SmudgeTally y = scanned(0, 510000000000L, 540000000000L, 530000000000L, 520000000000L);
        y.set(2, 1);
        due("three in the pool", y.draw(0, 3), 3);
        y.look(1, 300000000002L);
        // The dirt is 2 at the place 0, by this look, and 1 at the place 1.
        due("5 - 2 and 3, 4 - 1 and 0, 0 and 2", y.error(0, 2), 3 + 2);
        y.look(2, 530000000000L);
        // The dirt is gone at both places; so what it took from the first one counts, too.
        due("5 and 3, 4 and 0, 0 and 2", y.error(0, 2), 2 + 4 + 2);
        due("all places of all cards, without their dirt", allWrong().error(2, 2), 0);
        SmudgeTally z = scanned(0, dark(0, 5), dark(0, 5));
        z.draw(0, 2);
        z.look(0, dark(0, 1));
        due("no streak", z.error(0, 2), 4);
        z.set(0, 2);
        due("a streak by what was set", z.error(0, 2), 0);
        z.scan(0, dark(0, 3));
        due("less dirt by another card", z.error(0, 2), 1);
        said.says("Returns the value;");
        due("no cards", new SmudgeTally().error(0, 2), 0);
        said.says("INVALID_ARGUMENT if an argument is out of range.");
        said.range("what", what -> x.error(0, what), 0, 2);
        due("machine", x.error(3, 0), INVALID);
        due("machine", x.error(-1, 0), INVALID);
        due("both", x.error(3, 3), INVALID);
    }

    private static SmudgeTally looked(int truth) {
        SmudgeTally x = doubtful(1);
        x.draw(0, 1);
        x.look(0, dark(0, truth));
        return x;
    }

    /** Forty cards of machine 2 in five streaks, each place read as 8 where 0 is the truth. */
    private static SmudgeTally allWrong() {
        SmudgeTally x = new SmudgeTally();
        x.set(0, 9);
        for (int card = 0; card < 40; card++) {
            x.scan(2, 888888888888L);
            if (card % 8 == 7) x.clean(2);
        }
        x.publish();
        x.set(0, 8);
        return lookedAtAll(x);
    }

    private static SmudgeTally lookedAtAll(SmudgeTally x) {
        x.draw(0, 40);
        for (int card = 0; card < 40; card++) x.look(card, 0);
        return x;
    }

    private static void byLength() {
        said.section("Promise 24: byLength");
        said.says("`int byLength(int length)`: Tells how many cards would have another outcome than now in some contest, if the"
            + " least length of a streak was another one.");
        for (int now = 2; now <= 9; now++) {
            for (int cards = 1; cards <= 10; cards++) {
                SmudgeTally x = new SmudgeTally();
                x.set(0, now);
                for (int card = 0; card < cards; card++) x.scan(1, dark(4, 7));
                for (int length = 2; length <= 9; length++) {
                    int due = cards >= now == cards >= length ? 0 : cards;
                    due(cards + " cards, " + length + " for " + now, x.byLength(length), due);
                }
            }
        }
        due("other dirt, but the same outcome", scanned(0, 3, 3, 2).byLength(2), 0);
        due("each contest", scanned(0, 6, dark(0, 6) + 6, dark(0, 6), dark(3, 6), dark(3, 6) + dark(6, 6), dark(6, 6))
            .byLength(2), 6);
        due("now, not in a version", afterPublishing(), 2);
        due("one that was looked at stays", lookedAtOf(3), 2);
        SmudgeTally forty = new SmudgeTally();
        for (int card = 0; card < 40; card++) forty.scan(0, card % 4 == 3 ? 0 : 700L);
        due("of forty", forty.byLength(3), 30);
        said.due("nothing changes", everything(() -> {
            SmudgeTally x = scanned(0, 700L, 700L);
            x.byLength(2);
            return x;
        }), everything(() -> scanned(0, 700L, 700L)));
        said.says("- `length`: 2 to 9");
        said.range("length", length -> doubtful(3).byLength(length), 2, 9);
        said.says("Returns the number of cards;");
        due("none", new SmudgeTally().byLength(2), 0);
        due("all", scanned(0, 700L, 700L).byLength(2), 2);
        said.says("INVALID_ARGUMENT if length is out of range.");
        due("1", scanned(0, 700L).byLength(1), INVALID);
        due("10", scanned(0, 700L).byLength(10), INVALID);
        for (int length : FAR) due("far", new SmudgeTally().byLength(length), INVALID);
    }

    private static int afterPublishing() {
        SmudgeTally x = scanned(0, 700L, 700L);
        x.set(0, 2);
        x.publish();
        x.set(0, 9);
        return x.byLength(2);
    }

    /** How many of so many cards would change, of which one has been looked at. */
    private static int lookedAtOf(int cards) {
        SmudgeTally x = new SmudgeTally();
        for (int card = 0; card < cards; card++) x.scan(0, 500L);
        x.draw(0, 1);
        x.look(onlyDrawn(x), 0);
        return x.byLength(2);
    }

    private static void drawn() {
        said.section("Promise 25: drawn");
        said.says("`int drawn(int seed)`: Tells which card would be drawn as the next one.");
        int[] seeds = {0, 1, 872, 873, 45438, 65535, 65536};
        for (int cards = 1; cards <= 40; cards += 13) {
            for (int seed : seeds) {
                SmudgeTally x = doubtful(cards);
                int card = x.drawn(seed);
                due("seed " + seed + " of " + cards, card, (75L * seed + 74) % 65537 % cards);
                due("none is drawn by it", x.count(2), 0);
                x.draw(seed, 1);
                due("it is the one", x.card(card, 3), 1);
            }
        }
        SmudgeTally y = played("a0 a0 a5 a0 a5 a0");
        due("the first of the pool", y.drawn(0), 2);
        due("the second of the pool", y.drawn(1), 4);
        said.says("- `seed`: 0 to 65536");
        said.range("seed", seed -> y.drawn(seed), 0, 65536);
        said.says("Returns the card;");
        due("of one", doubtful(1).drawn(65536), 0);
        due("the last of forty", lastOfForty(), 39);
        said.says("INVALID_ARGUMENT if seed is out of range;");
        due("-1", y.drawn(-1), INVALID);
        due("65537", y.drawn(65537), INVALID);
        due("no cards", new SmudgeTally().drawn(65537), INVALID);
        said.says("NONE if the pool is empty.");
        due("no cards", new SmudgeTally().drawn(0), NONE);
        due("no doubts", scanned(0, 0, 9, 3).drawn(65536), NONE);
        SmudgeTally all = doubtful(2);
        all.draw(0, 2);
        due("all are drawn", all.drawn(0), NONE);
        all.look(0, 5);
        due("or looked at", all.drawn(0), NONE);
    }

    private static int lastOfForty() {
        SmudgeTally x = doubtful(40);
        return x.drawn(x.seedFor(39));
    }

    private static void seedFor() {
        said.section("Promise 26: seedFor");
        said.says("`int seedFor(int card)`: Finds the smallest seed with which the next card that is drawn would be a certain"
            + " one.");
        // With five cards the lot takes one place alone until it wraps around.
        for (int cards = 1; cards <= 40; cards++) {
            SmudgeTally x = doubtful(cards);
            for (int card = 0; card < cards; card++) due("card " + card + " of " + cards, x.seedFor(card), smallest(card, cards));
        }
        SmudgeTally y = played("a0 a5 a0 a5 a0 a5");
        for (int place = 0; place < 3; place++) due("by places of the pool", y.seedFor(2 * place + 1), smallest(place, 3));
        due("none is drawn by it", y.count(2), 0);
        said.says("- `card`: a card");
        said.range("card", card -> doubtful(3).seedFor(card), 0, 2);
        said.range("card of forty", card -> doubtful(40).seedFor(card), 0, 39);
        said.says("Returns the seed;");
        due("the only one", doubtful(1).seedFor(0), 0);
        due("it draws the card", drawnBy(y, y.seedFor(3)), 3);
        said.says("INVALID_ARGUMENT if there is no such card;");
        due("6", y.seedFor(6), INVALID);
        due("-1", y.seedFor(-1), INVALID);
        due("no cards", new SmudgeTally().seedFor(0), INVALID);
        for (int card : FAR) due("far", y.seedFor(card), INVALID);
        said.says("NONE if the card is not in the pool.");
        due("blank", y.seedFor(0), NONE);
        due("drawn", y.seedFor(3), NONE);
        y.look(3, dark(0, 5));
        due("looked at", y.seedFor(3), NONE);
        due("an empty pool", scanned(0, 0).seedFor(0), NONE);
    }

    private static int smallest(int place, int cards) {
        int seed = 0;
        while ((75L * seed + 74) % 65537 % cards != place) seed++;
        return seed;
    }

    private static int drawnBy(SmudgeTally x, int seed) {
        x.draw(seed, 1);
        return onlyDrawn(x);
    }
}
