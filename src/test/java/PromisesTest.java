/** Each promise of the document by itself: ordinary inputs, edges and wrong inputs. */
public final class PromisesTest extends Given {
    private static int promise = 0;
    private static int wrong = 0;
    private static int checked = 0;

    private static void due(String what, long is, long due) {
        checked++;
        if (is != due) {
            wrong++;
            System.out.println("promise " + promise + ": " + what + " answered " + is + ", due is " + due);
        }
    }

    public static void main(String[] args) {
        constants();
        newObject();
        scan();
        clean();
        set();
        publish();
        draw();
        look();
        take();
        restore();
        restoreParts();
        undo();
        undoOfEveryAction();
        undoPastFailures();
        append();
        clearText();
        run();
        runTokens();
        runCalls();
        failure();
        count();
        card();
        place();
        placeDirt();
        runAt();
        outcome();
        tally();
        changed();
        leader();
        error();
        byLength();
        drawn();
        seedFor();
        System.out.println(checked + " answers looked at, " + wrong + " wrong");
        if (wrong != 0) System.exit(1);
    }

    // ---- helpers

    private static void failed(SmudgeTally x, String text, int kind, int place, int commands, int code) {
        due("run of \"" + text + "\"", ran(x, text), -1000 - place);
        due("kind of \"" + text + "\"", x.failure(0), kind);
        due("place of \"" + text + "\"", x.failure(1), place);
        due("commands of \"" + text + "\"", x.failure(2), commands);
        due("code of \"" + text + "\"", x.failure(3), code);
    }

    // ---- promises

    private static void constants() {
        due("INVALID_ARGUMENT", SmudgeTally.INVALID_ARGUMENT, -1);
        due("ILLEGAL_STATE", SmudgeTally.ILLEGAL_STATE, -2);
        due("CAPACITY_EXCEEDED", SmudgeTally.CAPACITY_EXCEEDED, -3);
        due("NONE", SmudgeTally.NONE, -9);
    }

    private static void newObject() {
        promise = 1;
        SmudgeTally x = new SmudgeTally();
        int[] counts = {0, 0, 0, 0, 0, 0, 0, 0, 0, 0, 0, 4, 6, 4, 5};
        for (int what = 0; what < counts.length; what++) due("count(" + what + ")", x.count(what), counts[what]);
        due("clearText", x.clearText(), 0);
        due("failure(0)", x.failure(0), NONE);
        due("undo", x.undo(), ILLEGAL);
        due("restore(0)", x.restore(0), ILLEGAL);
        due("restore(1)", x.restore(1), ILLEGAL);
        due("drawn(0)", x.drawn(0), NONE);
        due("card(0, 0)", x.card(0, 0), INVALID);
        due("outcome in version 0", x.tally(0, 0, 0, -1), INVALID);
        x.scan(0, 1);
        due("cards of another object", new SmudgeTally().count(0), 0);
    }

    private static void scan() {
        promise = 2;
        SmudgeTally x = new SmudgeTally();
        due("first", x.scan(2, MOST), 0);
        due("second", x.scan(0, 0), 1);
        due("third", x.scan(1, 12345678901L), 2);
        due("machine", x.card(0, 0), 2);
        due("place 0 of the third", x.place(2, 0, 0), 0);
        due("place 1 of the third", x.place(2, 1, 0), 1);
        due("place 9 of the third", x.place(2, 9, 0), 9);
        due("place 10 of the third", x.place(2, 10, 0), 0);
        due("place 11 of the third", x.place(2, 11, 0), 1);
        due("place 11 of the first", x.place(0, 11, 0), 9);
        due("machine -1", x.scan(-1, 0), INVALID);
        due("machine 3", x.scan(3, 0), INVALID);
        due("row -1", x.scan(0, -1), INVALID);
        due("row too great", x.scan(0, MOST + 1), INVALID);
        due("row of a wrapped int", x.scan(0, Long.MIN_VALUE), INVALID);
        due("cards", x.count(0), 3);
        due("history", x.count(9), 3);
        for (int card = 3; card < 40; card++) due("card " + card, x.scan(card % 3, card), card);
        due("41st", x.scan(0, 0), FULL);
        due("41st with a wrong machine", x.scan(3, 0), INVALID);
        due("41st with a wrong row", x.scan(0, -1), INVALID);
        due("cards", x.count(0), 40);
    }

    private static void clean() {
        promise = 3;
        SmudgeTally x = new SmudgeTally();
        due("before any card", x.clean(1), 0);
        x.scan(1, 100000000000L);
        x.scan(0, 100000000000L);
        x.scan(1, 100000000000L);
        due("after two", x.clean(1), 2);
        x.scan(1, 100000000000L);
        due("all cards count, not only those since", x.clean(1), 3);
        due("another machine", x.clean(0), 1);
        due("an idle machine", x.clean(2), 0);
        due("run ends at a cleaning", x.runAt(0, 0, 1), 2);
        due("run begins behind a cleaning", x.runAt(3, 0, 0), 3);
        due("cleanings before card 0", x.card(0, 2), 1);
        due("cleanings before card 3", x.card(3, 2), 2);
        due("machine -1", x.clean(-1), INVALID);
        due("machine 3", x.clean(3), INVALID);
        due("history", x.count(9), 5);
        due("undo", x.undo(), 4);
        x.scan(2, 0);
        due("cleanings of machine 2 after undo", x.card(4, 2), 0);
    }

    private static void set() {
        promise = 4;
        SmudgeTally x = new SmudgeTally();
        int[] first = {4, 6, 4, 5};
        int[] least = {2, 1, 1, 0};
        int[] most = {9, 9, 9, 20};
        for (int what = 0; what < 4; what++) {
            due("least of " + what, x.set(what, least[what]), first[what]);
            due("most of " + what, x.set(what, most[what]), least[what]);
            due("below least of " + what, x.set(what, least[what] - 1), INVALID);
            due("above most of " + what, x.set(what, most[what] + 1), INVALID);
            due("count", x.count(11 + what), most[what]);
        }
        due("the others stay", x.count(11), 9);
        due("what -1", x.set(-1, 5), INVALID);
        due("what 4", x.set(4, 5), INVALID);
        SmudgeTally y = new SmudgeTally();
        y.set(1, 20);
        due("a wrong call records nothing", y.count(9), 0);
        due("the same number", y.set(1, 6), 6);
        due("is an action, too", y.count(9), 1);
        SmudgeTally z = scanned(0, 300000000000L, 500000000000L, 700000000000L);
        due("outcome", z.tally(0, 0, -1, -1), 1);
        z.set(1, 3);
        due("with a lower bound of marks", z.tally(0, 0, -1, -1), 3);
        z.set(1, 9);
        due("with a higher one", z.tally(0, 5, -1, -1), 2);
        z.set(2, 1);
        due("with a lower bound of doubts", z.tally(0, 5, -1, -1), 3);
        z.set(0, 3);
        due("with a shorter least length", z.place(2, 0, 3), 4);
    }

    private static void publish() {
        promise = 5;
        due("no card", new SmudgeTally().publish(), ILLEGAL);
        SmudgeTally x = smudged();
        due("three change", x.publish(), 3);
        due("none change", x.publish(), 0);
        due("versions", x.count(4), 3);
        SmudgeTally y = smudged();
        y.set(3, 2);
        due("more than the limit", y.publish(), ILLEGAL);
        due("versions", y.count(4), 1);
        due("history", y.count(9), 5);
        y.set(3, 3);
        due("just the limit", y.publish(), 3);
        SmudgeTally z = smudged();
        z.set(3, 2);
        z.draw(0, 1);
        due("drawn is not looked at", z.publish(), ILLEGAL);
        due("look", z.look(onlyDrawn(z), 500000000000L), 0);
        due("the streak has lost its dirt", z.count(5), 1);
        for (int version = 1; version < 6; version++) due("version " + version, z.publish(), version == 1 ? 1 : 0);
        due("seventh", z.publish(), FULL);
        z.set(3, 0);
        z.set(1, 1);
        due("the limit comes before the room", z.publish(), ILLEGAL);
        due("versions", z.count(4), 6);
        SmudgeTally w = smudged();
        w.draw(1, 3);
        for (int card = 0; card < 3; card++) w.look(card, 0);
        w.set(3, 0);
        due("those that were looked at do not count for the limit", w.publish(), 3);
    }

    private static void draw() {
        promise = 6;
        SmudgeTally x = doubtful(6);
        // From the seed 9: 749, 56249, 24381, 59150; left over by 6, 5, 4, 3: 5, 4, 1, 2.
        due("many 0", x.draw(0, 0), INVALID);
        due("many 41", x.draw(0, 41), INVALID);
        due("seed -1", x.draw(-1, 1), INVALID);
        due("seed 65537", x.draw(65537, 1), INVALID);
        due("too many", x.draw(9, 7), ILLEGAL);
        due("none is drawn by that", x.count(2), 0);
        due("four", x.draw(9, 4), 4);
        int[] stages = {0, 1, 0, 1, 1, 1};
        for (int card = 0; card < 6; card++) due("drawn is " + card, x.card(card, 3), stages[card]);
        due("the pool", x.count(3), 2);
        due("three of two", x.draw(9, 3), ILLEGAL);
        due("the rest", x.draw(65536, 2), 6);
        due("of an empty pool", x.draw(0, 1), ILLEGAL);
        x.look(0, 0);
        x.scan(0, 500000000000L);
        due("those that were looked at do not count", x.draw(0, 1), 6);
        SmudgeTally y = doubtful(40);
        due("all of forty", y.draw(123, 40), 40);
        due("history", y.count(9), 5);
        SmudgeTally z = smudged();
        due("pool of changed ones", z.count(3), 3);
        due("they can be drawn", z.draw(5, 3), 3);
        due("the fourth is no card of the last version", z.card(3, 3), 0);
    }

    private static void look() {
        promise = 7;
        SmudgeTally x = doubtful(3);
        due("not drawn", x.look(0, 0), ILLEGAL);
        x.draw(0, 3);
        due("card -1", x.look(-1, 0), INVALID);
        due("card 3", x.look(3, 0), INVALID);
        due("row -1", x.look(0, -1), INVALID);
        due("row too great", x.look(0, MOST + 1), INVALID);
        due("to blank", x.look(0, 0), 1);
        due("again", x.look(0, 0), ILLEGAL);
        due("again with a wrong row", x.look(0, -1), INVALID);
        due("all contests", x.look(1, MOST), 15);
        due("5 is no mark and no doubt", x.look(2, 500000000600L), 1 + 8);
        due("outcome", x.outcome(2, 0, -1), 3);
        due("outcome", x.outcome(2, 3, -1), 0);
        due("looked at", x.count(1), 3);
        SmudgeTally z = doubtful(1);
        z.draw(0, 1);
        z.set(1, 5);
        due("the same outcome as by what was set", z.look(0, 500000000000L), 0);
        SmudgeTally y = smudged();
        y.draw(0, 1);
        int card = onlyDrawn(y);
        due("the truth takes dirt away from others", y.look(card, 200000000000L), 0);
        due("dirt", y.place(3, 0, 1), 3);
        due("of an earlier one", y.place((card + 1) % 3, 0, 1), 3);
    }

    private static void take() {
        promise = 8;
        SmudgeTally x = new SmudgeTally();
        due("slot -1", x.take(-1), INVALID);
        due("slot 2", x.take(2), INVALID);
        due("nothing recorded", x.count(9), 0);
        due("no cards", x.take(1), 0);
        due("snapshots", x.count(8), 1);
        x.scan(0, 1);
        due("one card", x.take(0), 1);
        due("snapshots", x.count(8), 2);
        x.scan(0, 2);
        due("in place of another", x.take(1), 2);
        due("snapshots", x.count(8), 2);
        due("history", x.count(9), 5);
        x.scan(0, 3);
        due("restore", x.restore(1), 2);
        due("restore", x.restore(0), 1);
    }

    private static void restore() {
        promise = 9;
        SmudgeTally x = smudged();
        due("slot -1", x.restore(-1), INVALID);
        due("slot 2", x.restore(2), INVALID);
        due("empty", x.restore(0), ILLEGAL);
        x.set(0, 3);
        x.draw(4, 1);
        x.take(0);
        int history = x.count(9);
        due("history", history, 5);
        due("drawn", x.count(2), 1);
        due("look", x.look(onlyDrawn(x), 0), 0);
        x.set(0, 9);
        x.set(1, 9);
        x.set(2, 9);
        x.set(3, 19);
        x.publish();
        x.clean(0);
        x.scan(1, 5);
        write(x, "scan");
        due("restore", x.restore(0), 4);
        due("least length", x.count(11), 3);
        due("bound of marks", x.count(12), 6);
        due("bound of doubts", x.count(13), 4);
        due("limit", x.count(14), 5);
        due("versions", x.count(4), 1);
        due("looked at", x.count(1), 0);
        due("drawn", x.count(2), 1);
        due("the text stays", x.count(10), 4);
        due("history", x.count(9), 5);
        x.scan(0, 500000000000L);
        due("cleanings are as they were", x.card(4, 2), 0);
        due("it stays", x.restore(0), 4);
        due("snapshots", x.count(8), 1);
        due("the other is empty", x.restore(1), ILLEGAL);
        due("undo of restoring", x.undo(), 4);
        due("cards", x.count(0), 5);
        SmudgeTally y = scanned(0, 900000000000L);
        y.publish();
        y.take(1);
        y.set(1, 9);
        y.scan(0, 600000000000L);
        y.publish();
        y.publish();
        y.restore(1);
        due("version 1 is gone", y.tally(0, 0, 1, -1), INVALID);
        due("version 0 is there", y.tally(0, 0, 0, -1), 1);
        due("the history is not restored", y.count(9), 5);
    }

    private static void undo() {
        promise = 10;
        SmudgeTally x = new SmudgeTally();
        due("empty", x.undo(), ILLEGAL);
        for (int card = 0; card < 7; card++) x.scan(0, card);
        for (int left = 4; left >= 0; left--) {
            due("left", x.undo(), left);
            due("cards", x.count(0), left + 2);
        }
        due("empty again", x.undo(), ILLEGAL);
        due("cards", x.count(0), 2);
        x.take(0);
        x.scan(0, 5);
        x.take(0);
        x.undo();
        due("the slots belong to the state", x.restore(0), 2);
        x.undo();
        x.undo();
        due("left", x.undo(), 0);
        due("the slot is empty again", x.restore(0), ILLEGAL);
        write(x, "scan");
        x.scan(0, 1);
        x.append(' ');
        x.undo();
        due("the text is no part of it", x.count(10), 5);
        failed(x, "nonsense", 1, 0, 0, NONE);
        x.scan(0, 1);
        x.undo();
        due("nor is the failure", x.failure(0), 1);
        due("undo of undo there is none", x.undo(), ILLEGAL);
        ran(x, "scan 0 000000000001;scan 0 000000000001;");
        due("a program is one action", x.undo(), 0);
        due("cards", x.count(0), 2);
        due("its text does not come back", x.count(10), 0);
    }

    /** Before each action stands another one, so that each has to keep its own state. */
    private static void undoOfEveryAction() {
        SmudgeTally x = smudged();
        x.undo();
        due("scan", x.count(0), 3);
        x.scan(0, 500000000000L);
        x.clean(0);
        x.undo();
        x.scan(0, 500000000000L);
        due("clean", x.runAt(4, 0, 2), 5);
        x.clean(1);
        x.set(0, 9);
        x.undo();
        due("set", x.count(11), 4);
        x.clean(1);
        x.publish();
        x.undo();
        due("publish", x.count(4), 1);
        due("publish, changes", x.count(5), 3);
        x.scan(1, 0);
        x.draw(0, 1);
        x.undo();
        due("draw", x.count(2), 0);
        due("draw, pool", x.count(3), 3);
        due("draw, cards", x.count(0), 6);
        x.clean(1);
        x.draw(0, 3);
        x.look(0, 0);
        x.undo();
        due("look", x.count(1), 0);
        due("look, drawn", x.count(2), 3);
        due("look, dirt", x.place(1, 0, 1), 5);
        x.set(0, 8);
        x.take(0);
        x.undo();
        due("take", x.count(8), 0);
        due("take, number", x.count(11), 8);
        x.take(0);
        x.set(0, 7);
        x.restore(0);
        x.undo();
        due("restore", x.count(11), 7);
        x.set(0, 6);
        ran(x, "clean 0;scan 2 000000000000;");
        x.undo();
        due("run", x.count(0), 6);
        due("run, number", x.count(11), 6);
    }

    /** What fails leaves all states of a full history as they are. */
    private static void undoPastFailures() {
        SmudgeTally x = new SmudgeTally();
        for (int card = 0; card < 9; card++) {
            x.scan(card % 3, card);
            x.look(card, 0);
            failed(x, "scan 0 000000000007;publish;draw 0 40;", 2, 28, 2, ILLEGAL);
            x.draw(0, 40);
        }
        for (int left = 4; left >= 0; left--) {
            due("left", x.undo(), left);
            due("cards", x.count(0), left + 4);
            due("row of the last card", x.place(left + 3, 11, 0), left + 3);
        }
    }

    /** A snapshot keeps each part of a card and of a version, also when other ones come to stand in its place. */
    private static void restoreParts() {
        SmudgeTally x = new SmudgeTally();
        x.scan(0, 500000000000L);
        x.scan(1, 600000000000L);
        x.draw(0, 1);
        x.publish();
        x.take(0);
        x.look(0, 700000000000L);
        x.take(1);
        x.restore(0);
        x.look(0, 100000000000L);
        due("truth", x.place(0, 0, 2), 1);
        x.restore(1);
        due("truth", x.place(0, 0, 2), 7);
        due("outcome in version 0", x.outcome(0, 0, 0), 5);
        SmudgeTally y = new SmudgeTally();
        y.take(0);
        y.scan(0, 600000000000L);
        y.scan(0, 600000000000L);
        y.publish();
        y.take(1);
        y.restore(0);
        y.clean(1);
        y.scan(1, 60000000000L);
        y.publish();
        due("version 0 there", y.outcome(0, 0, 0), 1);
        y.restore(1);
        due("machine", y.card(0, 0), 0);
        due("cleanings", y.card(0, 2), 0);
        due("row", y.place(0, 0, 0), 6);
        due("outcome in version 0", y.outcome(0, 0, 0), 0);
        due("cards of version 0", y.outcome(1, 0, 0), 0);
        due("cards of version 0", y.tally(0, 0, 0, -1), 2);
    }

    private static void append() {
        promise = 11;
        SmudgeTally x = new SmudgeTally();
        due("0", x.append(0), INVALID);
        due("256", x.append(256), INVALID);
        due("-1", x.append(-1), INVALID);
        due("1", x.append(1), 1);
        due("255", x.append(255), 2);
        for (int length = 3; length <= 140; length++) due("length", x.append(' '), length);
        due("141st", x.append(' '), FULL);
        due("wrong 141st", x.append(0), INVALID);
        due("length", x.count(10), 140);
        due("no action", x.count(9), 0);
        due("run", x.run(), -1000);
    }

    private static void clearText() {
        promise = 12;
        SmudgeTally x = new SmudgeTally();
        due("empty", x.clearText(), 0);
        write(x, "scan 0 ");
        due("seven", x.clearText(), 7);
        due("empty again", x.clearText(), 0);
        due("no action", x.count(9), 0);
        write(x, "publish;");
        due("what was cleared is not run", x.run(), -1000);
        x.clearText();
        due("run of nothing", x.run(), 0);
    }

    private static void run() {
        promise = 13;
        SmudgeTally x = new SmudgeTally();
        due("nothing", x.run(), 0);
        due("is one action", x.count(9), 1);
        due("spaces", ran(x, "   "), 0);
        due("text", x.count(10), 0);
        due("no spaces", ran(x, "scan0 600500000000;clean0;publish;draw9 1;look0 000000000000;"), 5);
        due("history", x.count(9), 3);
        due("looked at", x.count(1), 1);
        due("outcome", x.outcome(0, 0, -1), 3);
        due("outcome in the version", x.outcome(0, 0, 0), 0);
        due("many spaces", ran(x, "  scan  2   000000000009  ;  clean 2 ; "), 2);
        due("place 11", x.place(1, 11, 0), 9);
        due("machine", x.card(1, 0), 2);
        write(x, "scan 1 000000000000;scan 1 00000000000;");
        due("fails", x.run(), -1027);
        due("the text is kept", x.count(10), 39);
        due("nothing stays", x.count(0), 2);
        due("nothing is recorded", x.count(9), 4);
        due("fails again", x.run(), -1027);
        due("undo", x.undo(), 3);
        due("cards before the latest program", x.count(0), 1);
        StringBuilder most = new StringBuilder();
        for (int i = 0; i < 17; i++) most.append("clean 0;");
        due("many commands", ran(x, most.toString()), 17);
        x.scan(0, 0);
        due("each was done", x.card(1, 2), 18);
        SmudgeTally y = new SmudgeTally();
        failed(y, "scan 0 000000000001;scan 0 000000000001;clean 0;publish;draw 0 1;", 2, 56, 4, ILLEGAL);
        due("cards", y.count(0), 0);
        due("versions", y.count(4), 0);
        y.scan(0, 0);
        due("cleanings", y.card(0, 2), 0);
    }

    private static void runTokens() {
        SmudgeTally x = new SmudgeTally();
        failed(x, "scan", 1, 4, 0, NONE);
        failed(x, "scan ", 1, 5, 0, NONE);
        failed(x, "scan 0", 1, 6, 0, NONE);
        failed(x, "scan 0 000000000000", 1, 19, 0, NONE);
        failed(x, "scan 0 000000000000  ", 1, 21, 0, NONE);
        failed(x, "scan 0 000000000000 scan", 1, 20, 0, NONE);
        failed(x, "scan 0 0000000000000;", 1, 7, 0, NONE);
        failed(x, "scan 0 00000000000;", 1, 7, 0, NONE);
        failed(x, "scan 0 000000 000000;", 1, 7, 0, NONE);
        failed(x, "scan 00 000000000000;", 1, 5, 0, NONE);
        failed(x, "scan 01 000000000000;", 1, 5, 0, NONE);
        failed(x, "scan 100000 000000000000;", 1, 5, 0, NONE);
        failed(x, "scan 000000000000;", 1, 5, 0, NONE);
        failed(x, "scan -1 000000000000;", 1, 5, 0, NONE);
        failed(x, "scan ;", 1, 5, 0, NONE);
        failed(x, "scan a 000000000000;", 1, 5, 0, NONE);
        failed(x, "scan 0 ;", 1, 7, 0, NONE);
        failed(x, "scans 0 000000000000;", 1, 0, 0, NONE);
        failed(x, "sca 0 000000000000;", 1, 0, 0, NONE);
        failed(x, "Scan 0 000000000000;", 1, 0, 0, NONE);
        failed(x, "scanX0 000000000000;", 1, 4, 0, NONE);
        failed(x, "scanz 0 000000000000;", 1, 0, 0, NONE);
        failed(x, "scan{0 000000000000;", 1, 4, 0, NONE);
        failed(x, "scan`0 000000000000;", 1, 4, 0, NONE);
        failed(x, "clean 0/;", 1, 7, 0, NONE);
        failed(x, ";", 1, 0, 0, NONE);
        failed(x, "0;", 1, 0, 0, NONE);
        failed(x, "clean 0;;", 1, 8, 1, NONE);
        failed(x, "clean 0 0;", 1, 8, 0, NONE);
        failed(x, "clean\t0;", 1, 5, 0, NONE);
        failed(x, "clean 0:", 1, 7, 0, NONE);
        failed(x, "clean 0;" + (char) 255, 1, 8, 1, NONE);
        failed(x, "clean 0;set 0 4;", 1, 8, 1, NONE);
        failed(x, "clean 0;undo;", 1, 8, 1, NONE);
        failed(x, "publish 0;", 1, 8, 0, NONE);
        failed(x, "draw 0;", 1, 6, 0, NONE);
        failed(x, "draw 0 01;", 1, 7, 0, NONE);
        failed(x, "draw 0 100000;", 1, 7, 0, NONE);
        failed(x, "look 0 000000;", 1, 7, 0, NONE);
        failed(x, "cleancl 0;", 1, 0, 0, NONE);
        failed(x, "publishx;", 1, 0, 0, NONE);
        failed(x, "publish", 1, 7, 0, NONE);
        due("history", x.count(9), 0);
        due("a 0 by itself", ran(x, "scan 0 000000000000;"), 1);
    }

    private static void runCalls() {
        SmudgeTally x = new SmudgeTally();
        failed(x, "scan 3 000000000000;", 2, 0, 0, INVALID);
        failed(x, "clean 99999;", 2, 0, 0, INVALID);
        failed(x, " clean 0; clean 3;", 2, 10, 1, INVALID);
        failed(x, "publish;", 2, 0, 0, ILLEGAL);
        failed(x, "draw 65537 1;", 2, 0, 0, INVALID);
        failed(x, "draw 65536 0;", 2, 0, 0, INVALID);
        failed(x, "draw 65536 41;", 2, 0, 0, INVALID);
        failed(x, "draw 65536 1;", 2, 0, 0, ILLEGAL);
        failed(x, "look 0 000000000000;", 2, 0, 0, INVALID);
        failed(x, "scan 0 000000000000;look 0 000000000000;", 2, 20, 1, ILLEGAL);
        // A call that fails comes before a wrong token behind its ";", and after one before it.
        failed(x, "clean 3;nonsense", 2, 0, 0, INVALID);
        failed(x, "clean 3 nonsense;", 1, 8, 0, NONE);
        failed(x, "clean 3", 1, 7, 0, NONE);
        for (int card = 0; card < 40; card++) x.scan(1, 0);
        failed(x, "scan 0 000000000000;", 2, 0, 0, FULL);
        for (int version = 0; version < 6; version++) x.publish();
        failed(x, "clean 0;publish;", 2, 8, 1, FULL);
        due("scan as scan()", ran(doubtful(0), "scan 2 999999999999;"), 1);
    }

    private static void failure() {
        promise = 14;
        SmudgeTally x = new SmudgeTally();
        for (int what = 0; what < 4; what++) due("none yet", x.failure(what), NONE);
        due("what -1", x.failure(-1), INVALID);
        due("what 4", x.failure(4), INVALID);
        failed(x, "clean 0;clean 1;draw 7 7;", 2, 16, 2, ILLEGAL);
        due("a program that does not fail", ran(x, "clean 0;"), 1);
        due("the failure stays", x.failure(1), 16);
        due("clearing the text", x.clearText(), 0);
        due("the failure stays", x.failure(3), ILLEGAL);
        failed(x, "clean 0;clean", 1, 13, 1, NONE);
        x.take(0);
        x.restore(0);
        x.undo();
        x.undo();
        due("the failure stays", x.failure(1), 13);
        due("what -1", x.failure(-1), INVALID);
        due("what 4", x.failure(4), INVALID);
    }

    private static void count() {
        promise = 15;
        SmudgeTally x = smudged();
        x.scan(1, 40000000000L);
        x.take(1);
        x.append('s');
        int[] counts = {5, 0, 0, 4, 1, 3, 3, 1, 1, 5, 1, 4, 6, 4, 5};
        for (int what = 0; what < counts.length; what++) due("count(" + what + ")", x.count(what), counts[what]);
        x.draw(0, 4);
        x.look(4, 0);
        due("looked at", x.count(1), 1);
        due("drawn", x.count(2), 3);
        due("pool", x.count(3), 0);
        due("changing", x.count(5), 3);
        x.look(0, 0);
        due("looked at and changing", x.count(5), 3);
        due("of them not looked at", x.count(6), 2);
        due("what -1", x.count(-1), INVALID);
        due("what 15", x.count(15), INVALID);
        SmudgeTally y = scanned(2, MOST, MOST, MOST, MOST);
        due("a streak at each place", y.count(7), 12);
        y.clean(2);
        for (int card = 0; card < 4; card++) y.scan(2, 1);
        due("and one behind a cleaning", y.count(7), 13);
        y.scan(2, 0);
        for (int card = 0; card < 3; card++) y.scan(2, 1);
        due("too short", y.count(7), 13);
        y.set(0, 3);
        due("long enough", y.count(7), 14);
        y.set(0, 9);
        due("none is so long", y.count(7), 0);
        SmudgeTally z = scanned(0, 600000000000L);
        z.set(1, 7);
        due("nothing changes without a version", z.count(5), 0);
    }

    private static void card() {
        promise = 16;
        SmudgeTally x = new SmudgeTally();
        due("no card", x.card(0, 0), INVALID);
        x.scan(2, 0);
        x.scan(1, 500000500005L);
        x.clean(2);
        x.clean(2);
        x.scan(2, 660500000000L);
        due("machine", x.card(1, 0), 1);
        due("place among those of machine 2", x.card(2, 1), 1);
        due("place among those of machine 1", x.card(1, 1), 0);
        due("cleanings before the first", x.card(0, 2), 0);
        due("cleanings before the third", x.card(2, 2), 2);
        due("cleanings of another machine", x.card(1, 2), 0);
        due("doubtful in none", x.card(0, 4), 0);
        due("doubtful in three", x.card(1, 4), 1 + 4 + 8);
        due("too many is not doubtful", x.card(2, 4), 2);
        due("not in the pool", x.card(0, 5), 0);
        due("in the pool", x.card(1, 5), 1);
        due("neither drawn nor looked at", x.card(1, 3), 0);
        x.draw(0, 2);
        due("drawn", x.card(1, 3), 1);
        due("not in the pool any more", x.card(1, 5), 0);
        due("but doubtful", x.card(1, 4), 13);
        x.look(1, 555555555555L);
        due("looked at", x.card(1, 3), 2);
        due("no doubts then", x.card(1, 4), 0);
        due("nor in the pool", x.card(1, 5), 0);
        due("card -1", x.card(-1, 0), INVALID);
        due("card 3", x.card(3, 0), INVALID);
        due("what -1", x.card(0, -1), INVALID);
        due("what 6", x.card(0, 6), INVALID);
        SmudgeTally y = smudged();
        due("changed ones are in the pool", y.card(2, 5), 1);
        due("and not doubtful", y.card(2, 4), 0);
        due("a new one is not", y.card(3, 5), 0);
        for (int card = 4; card < 40; card++) y.scan(1, 0);
        due("card 40", y.card(40, 0), INVALID);
        due("place of the last one", y.card(39, 1), 35);
    }

    private static void place() {
        promise = 17;
        SmudgeTally x = scanned(0, 654321098765L);
        int[] read = {6, 5, 4, 3, 2, 1, 0, 9, 8, 7, 6, 5};
        int[] mark = {2, 1, 1, 0, 0, 0, 0, 2, 2, 2, 2, 1};
        for (int place = 0; place < 12; place++) {
            due("read " + place, x.place(0, place, 0), read[place]);
            due("dirt " + place, x.place(0, place, 1), 0);
            due("truth " + place, x.place(0, place, 2), NONE);
            due("clear " + place, x.place(0, place, 3), read[place]);
            due("mark " + place, x.place(0, place, 4), mark[place]);
        }
        x.draw(0, 1);
        x.look(0, 123456789012L);
        int[] seenMark = {0, 0, 0, 0, 0, 2, 2, 2, 2, 0, 0, 0};
        for (int place = 0; place < 12; place++) {
            int truth = (place + 1) % 10;
            due("truth " + place, x.place(0, place, 2), truth);
            due("clear " + place, x.place(0, place, 3), truth);
            due("mark " + place, x.place(0, place, 4), seenMark[place]);
            due("read " + place, x.place(0, place, 0), read[place]);
        }
        due("card 1", x.place(1, 0, 0), INVALID);
        due("card -1", x.place(-1, 0, 0), INVALID);
        due("place -1", x.place(0, -1, 0), INVALID);
        due("place 12", x.place(0, 12, 0), INVALID);
        due("what -1", x.place(0, 0, -1), INVALID);
        due("what 5", x.place(0, 0, 5), INVALID);
    }

    private static void placeDirt() {
        SmudgeTally x = scanned(0, 700000000000L, 300000000000L, 900000000000L);
        due("three are no streak", x.place(2, 0, 1), 0);
        x.scan(1, 100000000000L);
        x.scan(0, 700000000000L);
        due("dirt of the first", x.place(0, 0, 1), 3);
        due("clear value of the third", x.place(2, 0, 3), 6);
        due("clear value of the least", x.place(1, 0, 3), 0);
        due("doubted", x.place(0, 0, 4), 1);
        due("another machine", x.place(3, 0, 1), 0);
        x.scan(0, 200000000000L);
        due("a longer streak", x.place(0, 0, 1), 2);
        x.scan(0, 1);
        x.scan(0, 100000000000L);
        due("a 0 ends it", x.place(0, 0, 1), 2);
        due("behind the 0", x.place(7, 0, 1), 0);
        SmudgeTally y = scanned(0, 500000000000L, 500000000000L, 500000000000L, 500000000000L, 700000000000L);
        y.scan(1, 500000000000L);
        due("dirt", y.place(4, 0, 1), 5);
        y.set(2, 2);
        due("pool", y.count(3), 2);
        y.draw(0, 2);
        y.look(4, 600000000000L);
        due("read less truth is less", y.place(0, 0, 1), 1);
        due("also of the card itself", y.place(4, 0, 1), 1);
        due("but its clear value is the truth", y.place(4, 0, 3), 6);
        y.undo();
        y.look(4, 900000000000L);
        due("at least 0", y.place(0, 0, 1), 0);
        y.undo();
        y.look(4, 0);
        due("what was read stays in force", y.place(0, 0, 1), 5);
        y.look(5, 100000000000L);
        due("no matter for another machine", y.place(0, 0, 1), 5);
        due("a run of one has no dirt", y.place(5, 0, 1), 0);
    }

    private static void runAt() {
        promise = 18;
        SmudgeTally x = new SmudgeTally();
        x.scan(0, 100000000001L);
        x.scan(1, 1);
        x.scan(0, 100000000000L);
        x.scan(0, 900000000001L);
        x.clean(1);
        x.scan(0, 1);
        x.clean(0);
        x.scan(0, 1);
        int[][] runs = {{0, 0, 0, 3, 3}, {0, 11, 0, 0, 1}, {3, 0, 0, 3, 3}, {3, 11, 3, 4, 2}, {4, 11, 3, 4, 2},
            {5, 11, 5, 5, 1}, {1, 11, 1, 1, 1}};
        for (int[] run : runs) {
            for (int what = 0; what < 3; what++) {
                due("run at " + run[0] + ", " + run[1], x.runAt(run[0], run[1], what), run[2 + what]);
            }
        }
        due("read as 0", x.runAt(2, 11, 0), NONE);
        due("read as 0", x.runAt(4, 0, 2), NONE);
        due("read as 0, what 3", x.runAt(4, 0, 3), INVALID);
        due("what -1", x.runAt(0, 0, -1), INVALID);
        due("card 6", x.runAt(6, 0, 0), INVALID);
        due("card -1", x.runAt(-1, 0, 0), INVALID);
        due("place 12", x.runAt(0, 12, 0), INVALID);
        due("place -1", x.runAt(0, -1, 0), INVALID);
        SmudgeTally y = new SmudgeTally();
        for (int card = 0; card < 40; card++) y.scan(2, MOST);
        due("the longest", y.runAt(20, 6, 2), 40);
        due("its last one", y.runAt(0, 6, 1), 39);
    }

    private static void outcome() {
        promise = 19;
        SmudgeTally x = scanned(0, 600060006000L, 664654554444L, 300390030933L);
        int[][] due = {{0, 1, 2, 3}, {4, 5, 5, 5}, {3, 1, 3, 0}};
        for (int card = 0; card < 3; card++) {
            for (int contest = 0; contest < 4; contest++) {
                due("outcome of " + card + " in " + contest, x.outcome(card, contest, -1), due[card][contest]);
            }
        }
        SmudgeTally y = smudged();
        due("now", y.outcome(0, 0, -1), 3);
        due("in version 0", y.outcome(0, 0, 0), 5);
        due("no card of it", y.outcome(3, 0, 0), NONE);
        due("no such version", y.outcome(3, 0, 1), INVALID);
        y.publish();
        due("in version 1", y.outcome(0, 0, 1), 3);
        due("the version 0 stays", y.outcome(0, 0, 0), 5);
        due("a card of it", y.outcome(3, 0, 1), 3);
        due("one mark beside a doubt", scanned(0, 650000000000L).outcome(0, 0, -1), 5);
        due("card 4", y.outcome(4, 0, 0), INVALID);
        due("card -1", y.outcome(-1, 0, -1), INVALID);
        due("contest -1", y.outcome(0, -1, -1), INVALID);
        due("contest 4", y.outcome(0, 4, -1), INVALID);
        due("contest 4 of no card of it", y.outcome(3, 4, 0), INVALID);
        due("version -2", y.outcome(0, 0, -2), INVALID);
        due("version 6", y.outcome(0, 0, 6), INVALID);
    }

    private static void tally() {
        promise = 20;
        SmudgeTally x = scanned(0, 600000000000L, 600000000000L, 600600000000L);
        x.scan(1, 60000000000L);
        x.scan(1, 660000000000L);
        x.scan(2, 500000000006L);
        int[] contest0 = {3, 1, 0, 0, 1, 1};
        int[] contest3 = {0, 0, 1, 5, 0, 0};
        for (int outcome = 0; outcome < 6; outcome++) {
            due("contest 0, outcome " + outcome, x.tally(0, outcome, -1, -1), contest0[outcome]);
            due("contest 3, outcome " + outcome, x.tally(3, outcome, -1, -1), contest3[outcome]);
        }
        due("contest 1", x.tally(1, 0, -1, -1), 1);
        due("machine 0", x.tally(0, 0, -1, 0), 3);
        due("machine 1", x.tally(0, 0, -1, 1), 0);
        due("machine 1", x.tally(0, 1, -1, 1), 1);
        due("machine 2", x.tally(0, 5, -1, 2), 1);
        x.publish();
        x.scan(0, 600000000000L);
        due("in version 0", x.tally(0, 0, 0, -1), 3);
        due("in version 0 of machine 0", x.tally(0, 0, 0, 0), 3);
        due("now: a streak", x.tally(0, 0, -1, 0), 0);
        due("now: blank", x.tally(0, 3, -1, 0), 4);
        due("contest 4", x.tally(4, 0, -1, -1), INVALID);
        due("contest -1", x.tally(-1, 0, -1, -1), INVALID);
        due("outcome 6", x.tally(0, 6, -1, -1), INVALID);
        due("outcome -1", x.tally(0, -1, -1, -1), INVALID);
        due("version 1", x.tally(0, 0, 1, -1), INVALID);
        due("version -2", x.tally(0, 0, -2, -1), INVALID);
        due("machine 3", x.tally(0, 0, -1, 3), INVALID);
        due("machine -2", x.tally(0, 0, -1, -2), INVALID);
    }

    private static void changed() {
        promise = 21;
        SmudgeTally x = scanned(0, 500000000005L, 0, 500000000000L, 500000000000L);
        due("no version", x.changed(0, 0, 0), INVALID);
        x.publish();
        due("nothing has changed in the first", x.changed(0, 0, 0), NONE);
        x.set(2, 6);
        x.scan(1, 500000000000L);
        due("publish", x.publish(), 3);
        int[] cards = {0, 2, 3};
        int[] sets = {9, 1, 1};
        for (int index = 0; index < 3; index++) {
            due("card", x.changed(1, index, 0), cards[index]);
            due("set", x.changed(1, index, 1), sets[index]);
        }
        due("a new card has not changed", x.changed(1, 3, 0), NONE);
        due("index of many", x.changed(1, Integer.MAX_VALUE, 1), NONE);
        x.publish();
        due("version 2", x.changed(2, 0, 0), NONE);
        due("version 1 is as it was", x.changed(1, 2, 0), 3);
        due("version 3", x.changed(3, 0, 0), INVALID);
        due("version -1", x.changed(-1, 0, 0), INVALID);
        due("index -1", x.changed(1, -1, 0), INVALID);
        due("what 2", x.changed(1, 0, 2), INVALID);
        due("what -1", x.changed(1, 0, -1), INVALID);
        due("what 2 where none is", x.changed(1, 9, 2), INVALID);
    }

    private static void leader() {
        promise = 22;
        SmudgeTally x = new SmudgeTally();
        due("nobody: the smallest", x.leader(0, 0), 0);
        due("nobody: no lead", x.leader(0, 1), 0);
        due("nobody: not decided", x.leader(0, 3), 0);
        x.scan(0, 6L);
        due("the third", x.leader(3, 0), 2);
        due("lead", x.leader(3, 1), 1);
        due("doubtful", x.leader(3, 2), 0);
        due("decided", x.leader(3, 3), 1);
        due("contest 0", x.leader(0, 0), 0);
        x.scan(1, 60L);
        due("of several the smallest", x.leader(3, 0), 1);
        due("of several no lead", x.leader(3, 1), 0);
        x.scan(1, 60L);
        x.scan(2, 500L);
        due("doubtful", x.leader(3, 2), 1);
        due("the first one can be the second", leadOverFirst(), 1);
        due("as many doubtful as lead", x.leader(3, 3), 0);
        x.scan(1, 60L);
        x.set(0, 9);
        due("lead", x.leader(3, 1), 2);
        due("decided", x.leader(3, 3), 1);
        x.draw(0, 1);
        x.look(3, 500L);
        due("looked at is not doubtful", x.leader(3, 2), 0);
        for (int card = 0; card < 9; card++) {
            x.scan(0, 666L);
            x.scan(0, 0L);
        }
        due("blank and too many are no choices", x.leader(3, 1), 2);
        due("contest -1", x.leader(-1, 0), INVALID);
        due("contest 4", x.leader(4, 0), INVALID);
        due("what -1", x.leader(0, -1), INVALID);
        due("what 4", x.leader(0, 4), INVALID);
    }

    private static int leadOverFirst() {
        SmudgeTally x = new SmudgeTally();
        x.scan(0, 600L);
        x.scan(1, 60L);
        x.scan(2, 60L);
        return x.leader(3, 1);
    }

    private static void error() {
        promise = 23;
        errorAfterSetting();
        SmudgeTally x = scanned(0, 510000000000L, 320000000000L, 530000000000L, 540000000000L);
        x.scan(1, 500000000000L);
        for (int what = 0; what < 3; what++) due("nothing looked at", x.error(0, what), 0);
        x.set(1, 9);
        x.set(2, 2);
        due("draw", x.draw(0, x.count(3)), 4);
        due("in the pool were those with a doubt", x.card(1, 3), 0);
        x.look(0, 200000000009L);
        // Read 5 1, dirt 3 1, truth 2 0 and 9 at the last place.
        due("dirt", x.place(0, 0, 1), 3);
        due("dirt", x.place(0, 1, 1), 1);
        due("places", x.error(0, 0), 3);
        due("sum", x.error(0, 1), 3 + 1 + 9);
        due("sum without dirt", x.error(0, 2), 0 + 0 + 9);
        x.look(2, 530000000000L);
        // The dirt is 0 now at both places.
        due("sum without dirt", x.error(0, 2), 13);
        due("places", x.error(0, 0), 3);
        due("sum", x.error(0, 1), 13);
        x.look(4, 900000000000L);
        due("places of machine 1", x.error(1, 0), 1);
        due("sum of machine 1", x.error(1, 1), 4);
        due("machine 0", x.error(0, 1), 13);
        due("machine 2", x.error(2, 1), 0);
        due("machine -1", x.error(-1, 0), INVALID);
        due("machine 3", x.error(3, 0), INVALID);
        due("what -1", x.error(0, -1), INVALID);
        due("what 3", x.error(0, 3), INVALID);
    }

    private static void errorAfterSetting() {
        SmudgeTally x = doubtful(1);
        x.scan(0, 500000000000L);
        x.draw(0, 2);
        x.look(1, 200000000000L);
        due("no streak", x.error(0, 2), 3);
        x.undo();
        x.undo();
        x.scan(0, 500000000000L);
        x.draw(0, 3);
        x.look(1, 200000000000L);
        x.set(0, 2);
        due("a streak by what was set", x.error(0, 2), 0);
        SmudgeTally y = scanned(1, new long[40]);
        due("of 40 cards", y.error(1, 2), 0);
    }

    private static void byLength() {
        promise = 24;
        SmudgeTally x = scanned(0, 700000000000L, 700000000000L, 0, 700000000000L, 700000000000L, 700000000000L);
        due("2", x.byLength(2), 5);
        due("3", x.byLength(3), 3);
        due("4 is now", x.byLength(4), 0);
        due("9", x.byLength(9), 0);
        due("outcomes are as before", x.tally(0, 0, -1, -1), 5);
        x.set(0, 2);
        due("2 is now", x.byLength(2), 0);
        due("3", x.byLength(3), 2);
        due("4", x.byLength(4), 5);
        due("nothing recorded", x.count(9), 5);
        due("length stays", x.count(11), 2);
        due("1", x.byLength(1), INVALID);
        due("10", x.byLength(10), INVALID);
        due("no cards", new SmudgeTally().byLength(2), 0);
        long[] rows = new long[40];
        for (int card = 0; card < 40; card++) rows[card] = card % 3 == 0 ? 0 : 600L;
        SmudgeTally y = scanned(2, rows);
        due("40 cards", y.byLength(2), 26);
        due("their streaks by 4", y.count(7), 0);
        y.set(0, 2);
        due("their streaks by 2", y.count(7), 13);
    }

    private static void drawn() {
        promise = 25;
        SmudgeTally x = doubtful(6);
        due("749 left over by 6", x.drawn(9), 5);
        due("74 left over by 6", x.drawn(0), 2);
        due("65536", x.drawn(65536), (75 * 65536 + 74) % 65537 % 6);
        due("none is drawn by it", x.count(2), 0);
        due("-1", x.drawn(-1), INVALID);
        due("65537", x.drawn(65537), INVALID);
        x.draw(9, 1);
        due("it is the one", x.card(5, 3), 1);
        due("of those that are left", x.drawn(9), 749 % 5);
        x.scan(1, 0);
        x.draw(0, 5);
        due("empty pool", x.drawn(0), NONE);
        due("empty pool, wrong seed", x.drawn(-1), INVALID);
        SmudgeTally y = new SmudgeTally();
        y.scan(0, 0);
        y.scan(0, 500000000000L);
        due("places in the pool are not numbers of cards", y.drawn(0), 1);
    }

    private static void seedFor() {
        promise = 26;
        SmudgeTally x = doubtful(7);
        for (int card = 0; card < 7; card++) {
            int seed = 0;
            while ((75 * seed + 74) % 65537 % 7 != card) seed++;
            due("seed for " + card, x.seedFor(card), seed);
            due("draws it", x.drawn(x.seedFor(card)), card);
        }
        x.scan(0, 0);
        due("not in the pool", x.seedFor(7), NONE);
        due("alone in the pool", doubtful(1).seedFor(0), 0);
        due("card 8", x.seedFor(8), INVALID);
        due("card -1", x.seedFor(-1), INVALID);
        x.draw(x.seedFor(0), 1);
        due("drawn already", x.seedFor(0), NONE);
        due("its place is less now", x.drawn(x.seedFor(1)), 1);
        due("nothing recorded but by actions", x.count(9), 5);
        due("no card", new SmudgeTally().seedFor(0), INVALID);
    }
}
