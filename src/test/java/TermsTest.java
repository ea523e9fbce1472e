import java.util.function.Supplier;
import java.util.function.ToIntFunction;

/** Each sentence of the document's "Terms" by itself: at what it bounds, and just behind it. */
public final class TermsTest extends Given {
    private static final Sentences said = new Sentences("What it is", "Terms", "Cards and machines", "Dirt",
        "Marks and outcomes", "Versions", "Looks", "Text", "Snapshots", "Undo", "Errors");

    public static void main(String[] args) {
        whatItIs();
        terms();
        cardsAndMachines();
        dirt();
        streaks();
        marks();
        outcomes();
        versions();
        limit();
        looks();
        pool();
        lots();
        text();
        commands();
        tokens();
        numbersAndSpaces();
        failures();
        placesOfFailures();
        slots();
        snapshotParts();
        history();
        historyActions();
        historyOrder();
        errorsChangeNothing();
        errorsWithFullRows();
        orderOfErrors();
        noneComesLast();
        constants();
        said.end();
    }

    private static void due(String what, long is, long due) {
        said.due(what, is, due);
    }

    // ---- What it is

    private static void whatItIs() {
        said.section("What it is");
        said.alsoSays("A tally of ballots whose scanners get dirty: readings of cards, dirt that is learned from runs of"
            + " cards and taken out of what was read, marks and doubts, outcomes by contests, counts that are published"
            + " and restated with each card that changed, a limit of restating, cards that are drawn by lot and looked"
            + " at by hand, what is decided, how wrong the machines were, snapshots, undo, and commands that are run"
            + " from a text, with the cause of a failure.");
        said.says("An object is used for at most 512 calls after it has been made;");
        SmudgeTally x = new SmudgeTally();
        for (int call = 0; call < 40; call++) x.scan(0, dark(0, 5));
        for (int call = 40; call < 508; call++) x.clean(1 + call % 2);
        due("the 509th call", x.count(9), 5);
        due("the 510th call", x.undo(), 4);
        due("the 511th call", x.scan(1, 0), FULL);
        due("the 512th call", x.place(39, 0, 1), 5);
        SmudgeTally y = new SmudgeTally();
        for (int call = 0; call < 510; call++) y.clean(2);
        y.scan(2, 0);
        due("the 512th call", y.card(0, 2), 510);
        said.alsoSays("what later calls answer is free.");
    }

    // ---- Terms

    private static void terms() {
        said.section("Terms");
        said.alsoSays("All numbers are whole.");
        said.says("Sets are bit masks: bit k is for number k.");
        for (int contest = 0; contest < 4; contest++) {
            due("doubtful", scanned(0, dark(3 * contest, 5)).card(0, 4), 1 << contest);
        }
        due("doubtful in none", scanned(0, 0).card(0, 4), 0);
        due("doubtful in all", scanned(0, 5005005005L * 100).card(0, 4), 15);
        said.alsoSays("Where something is divided, the result is rounded down.");
    }

    // ---- Cards and machines

    private static void cardsAndMachines() {
        said.section("Cards and machines");
        said.says("There are 3 machines, 0 to 2.");
        for (int machine = 0; machine < 3; machine++) {
            SmudgeTally x = scanned(machine, 7);
            due("machine", x.card(0, 0), machine);
            due("clean", x.clean(machine), 1);
            due("tally", x.tally(3, 2, -1, machine), 1);
        }
        said.range("machine", machine -> new SmudgeTally().scan(machine, 0), 0, 2);
        placesOfCards();
        fortyCards();
        said.says("A machine can be cleaned.");
        SmudgeTally x = played("a5 a! a5");
        due("run", x.runAt(1, 0, 0), 1);
    }

    private static void placesOfCards() {
        said.says("A card has 12 places, 0 to 11;");
        said.range("place", place -> scanned(0, 1).place(0, place, 0), 0, 11);
        for (int place = 0; place < 12; place++) {
            SmudgeTally x = scanned(0, dark(place, 7));
            for (int other = 0; other < 12; other++) due("read", x.place(0, other, 0), other == place ? 7 : 0);
        }
        said.says("the places 3c, 3c + 1 and 3c + 2 are the choices 0, 1 and 2 of the contest c (0 to 3).");
        for (int place = 0; place < 12; place++) {
            SmudgeTally x = scanned(0, dark(place, 6));
            for (int contest = 0; contest < 4; contest++) {
                due("place " + place, x.outcome(0, contest, -1), contest == place / 3 ? place % 3 : 3);
            }
        }
        said.says("A machine reads how dark each place is, 0 to 9; such a row of 12 numbers is told as a number whose 12"
            + " decimal digits (with zeros in front, if need be) are these, place 0 first.");
        long[] rows = {0, 1, 9, 10, 12345678909L, 100000000000L, 987654321098L, MOST, 1L << 31, 1L << 32, (1L << 39) - 1};
        for (long row : rows) {
            SmudgeTally x = scanned(0, row);
            String digits = String.format("%012d", row);
            for (int place = 0; place < 12; place++) {
                due(digits + " at " + place, x.place(0, place, 0), digits.charAt(place) - '0');
            }
        }
    }

    private static void fortyCards() {
        said.says("There are at most 40 cards, numbered from 0 in the order in which they were scanned.");
        SmudgeTally x = new SmudgeTally();
        for (int card = 0; card < 40; card++) due("scan", x.scan(2 - card % 3, card), card);
        due("41st", x.scan(0, 0), FULL);
        due("cards", x.count(0), 40);
        for (int card = 0; card < 40; card++) {
            due("machine", x.card(card, 0), 2 - card % 3);
            due("last digits", 10 * x.place(card, 10, 0) + x.place(card, 11, 0), card);
        }
        due("41st in a program", ran(x, "scan 0 000000000000;"), -1000);
        due("undo", x.undo(), 4);
        due("room again", x.scan(0, 0), 39);
        due("but for one", x.scan(0, 0), FULL);
    }

    // ---- Dirt

    private static void run(String steps, int card, int first, int last, int cards) {
        SmudgeTally x = played(steps);
        due(steps + ": first of the run at " + card, x.runAt(card, 0, 0), first);
        due(steps + ": last of the run at " + card, x.runAt(card, 0, 1), last);
        due(steps + ": cards of the run at " + card, x.runAt(card, 0, 2), cards);
    }

    private static void dirt() {
        said.section("Dirt");
        said.says("At a place of a machine, a run is made of as many cards as possible that were scanned by this machine"
            + " one behind another");
        run("a5", 0, 0, 0, 1);
        for (int card = 0; card < 4; card++) run("a5 a6 a7 a8", card, 0, 3, 4);
        SmudgeTally x = new SmudgeTally();
        for (int card = 0; card < 40; card++) x.scan(1, MOST);
        for (int card = 0; card < 40; card += 39) {
            due("first of forty", x.runAt(card, 11, 0), 0);
            due("last of forty", x.runAt(card, 11, 1), 39);
            due("forty", x.runAt(card, 11, 2), 40);
        }
        said.says("(whatever other machines scanned between)");
        for (int card = 0; card < 4; card += 3) run("a5 b0 c0 a5", card, 0, 3, 2);
        run("a5 b5 c5 a5", 1, 1, 1, 1);
        run("b5 a5 b0 a5 b5", 4, 4, 4, 1);
        said.says("without the machine being cleaned between them");
        run("a5 a! a5", 0, 0, 0, 1);
        run("a5 a! a5", 1, 1, 1, 1);
        run("a5 a5 a! a! a5 a5 a5 a!", 4, 2, 4, 3);
        run("a! a5 a5 a!", 1, 0, 1, 2);
        run("a5 b! c! a5", 1, 0, 1, 2);
        run("a5 b5 a! b5 a5", 2, 1, 2, 2);
        said.says("and on each of which this place was read as above 0.");
        run("a1 a9 a1", 1, 0, 2, 3);
        run("a5 a0 a5", 0, 0, 0, 1);
        run("a5 a0 a5", 2, 2, 2, 1);
        due("read as 0", played("a5 a0 a5").runAt(1, 0, 2), NONE);
        SmudgeTally y = scanned(0, dark(0, 5), dark(1, 5), dark(0, 5));
        due("each place by itself", y.runAt(2, 0, 0), 2);
    }

    private static void streaks() {
        said.says("A run of at least as many cards as the least length (2 to 9, at first 4) is a streak.");
        due("three at first", played("a5 a5 a5").count(7), 0);
        due("four at first", played("a5 a5 a5 a5").count(7), 1);
        due("four of two machines", played("a5 b5 a5 b5").count(7), 0);
        for (int length = 2; length <= 9; length++) {
            SmudgeTally x = new SmudgeTally();
            x.set(0, length);
            for (int card = 1; card < length; card++) x.scan(0, dark(0, 5));
            due("one less than " + length, x.count(7), 0);
            x.scan(0, dark(0, 5));
            due("just " + length, x.count(7), 1);
            x.scan(0, dark(0, 5));
            due("one more than " + length, x.count(7), 1);
        }
        said.range("least length", length -> new SmudgeTally().set(0, length), 2, 9);
        said.says("The dirt of a streak is the least of these numbers: what was read at this place, of each of its cards;");
        String[] streaks = {"a1 a9 a9 a9", "a9 a1 a9 a9", "a9 a9 a9 a1", "a1 a1 a1 a1", "a9 a9 a9 a9 a1"};
        for (String steps : streaks) due(steps, played(steps).place(0, 0, 1), 1);
        due("nines", played("a9 a9 a9 a9").place(3, 0, 1), 9);
        due("of its cards alone", played("a9 a9 a9 a9 a0 a1 b1").place(3, 0, 1), 9);
        said.says("and, of each of its cards that has been looked at, what was read at this place less the truth, but at"
            + " least 0.");
        int[] dirt = {5, 4, 3, 2, 1, 0, 0, 0, 0, 0};
        for (int truth = 0; truth < 10; truth++) {
            SmudgeTally x = smudged();
            x.draw(0, 3);
            x.look(1, dark(0, truth));
            for (int card = 0; card < 4; card++) due("truth " + truth, x.place(card, 0, 1), dirt[truth]);
        }
        SmudgeTally z = smudged();
        z.draw(0, 3);
        z.look(0, dark(0, 3));
        z.look(2, dark(0, 1));
        due("two were looked at", z.place(3, 0, 1), 2);
        said.says("The dirt at a place of a card is that of the streak to which it belongs there, or 0 without a streak.");
        SmudgeTally y = played("a5 a6 a7 a8 a0 a3 a3 a3 b4 a! a4 a4 a4 a4");
        int[] due = {5, 5, 5, 5, 0, 0, 0, 0, 0, 4, 4, 4, 4};
        for (int card = 0; card < due.length; card++) due("card " + card, y.place(card, 0, 1), due[card]);
        due("another place", y.place(0, 1, 1), 0);
    }

    // ---- Marks and outcomes

    private static void marks() {
        said.section("Marks and outcomes");
        said.says("The clear value at a place of a card is the truth if the card has been looked at;");
        for (int truth = 0; truth < 10; truth++) {
            SmudgeTally x = doubtful(1);
            x.draw(0, 1);
            due("only drawn", x.place(0, 0, 3), 5);
            x.look(0, dark(0, truth));
            due("looked at", x.place(0, 0, 3), truth);
        }
        said.says("otherwise it is what was read less the dirt.");
        SmudgeTally y = played("a5 a6 a9 a5");
        int[] clear = {0, 1, 4, 0};
        for (int card = 0; card < 4; card++) due("card " + card, y.place(card, 0, 3), clear[card]);
        due("no streak", played("a9").place(0, 0, 3), 9);
        said.says("The place is marked if the clear value is at least the bound of marks (1 to 9, at first 6).");
        due("5 at first", scanned(0, 5).place(0, 11, 4), 1);
        due("6 at first", scanned(0, 6).place(0, 11, 4), 2);
        for (int bound = 1; bound <= 9; bound++) {
            for (int read = 0; read <= 9; read++) {
                SmudgeTally x = scanned(0, read);
                x.set(1, bound);
                due(read + " with the bound " + bound, x.place(0, 11, 4) / 2, read >= bound ? 1 : 0);
            }
        }
        due("a truth of 6", looked(6, 6), 2);
        due("a truth of 5", looked(6, 5), 0);
        due("less the dirt", played("a7 a1 a1 a1").place(0, 0, 4), 2);
        due("less more dirt", played("a7 a2 a2 a2").place(0, 0, 4), 1);
        said.range("bound of marks", bound -> new SmudgeTally().set(1, bound), 1, 9);
        doubts();
    }

    /** The mark of a place whose truth is this one. */
    private static int looked(int boundOfMarks, int truth) {
        SmudgeTally x = doubtful(1);
        x.draw(0, 1);
        x.look(0, dark(0, truth));
        x.set(1, boundOfMarks);
        return x.place(0, 0, 4);
    }

    private static void doubts() {
        said.says("It is doubted if the card has not been looked at,");
        for (int truth = 0; truth < 10; truth++) due("truth " + truth, looked(9, truth), truth == 9 ? 2 : 0);
        SmudgeTally drawn = doubtful(1);
        drawn.draw(0, 1);
        due("only drawn", drawn.place(0, 0, 4), 1);
        said.says("and the clear value is less than this bound, but at least the bound of doubts (1 to 9, at first 4).");
        int[] first = {0, 0, 0, 0, 1, 1, 2, 2, 2, 2};
        for (int read = 0; read <= 9; read++) due(read + " at first", scanned(0, read).place(0, 11, 4), first[read]);
        for (int bound = 1; bound <= 9; bound++) {
            for (int read = 0; read <= 9; read++) {
                SmudgeTally x = scanned(0, read);
                x.set(2, bound);
                int due = read >= 6 ? 2 : read >= bound ? 1 : 0;
                due(read + " with the bound " + bound, x.place(0, 11, 4), due);
            }
        }
        said.range("bound of doubts", bound -> new SmudgeTally().set(2, bound), 1, 9);
    }

    private static void outcomes() {
        said.says("The outcome of a card in a contest is: 4 (too many) if more than one of its three places are marked;"
            + " otherwise 5 (doubtful) if any of them is doubted; otherwise the choice that is marked, 0 to 2, or 3"
            + " (blank) if none is.");
        int[] values = {3, 4, 5, 6};
        for (int code = 0; code < 64; code++) {
            int[] read = {values[code / 16], values[code / 4 % 4], values[code % 4]};
            int marks = 0;
            int choice = 3;
            boolean doubt = false;
            for (int place = 0; place < 3; place++) {
                if (read[place] == 6) marks++;
                if (read[place] == 6) choice = place;
                doubt |= read[place] == 4 || read[place] == 5;
            }
            int due = marks > 1 ? 4 : doubt ? 5 : choice;
            for (int contest = 0; contest < 4; contest++) {
                long row = 0;
                for (int place = 0; place < 3; place++) row += dark(3 * contest + place, read[place]);
                SmudgeTally x = scanned(0, row);
                due(row + " in " + contest, x.outcome(0, contest, -1), due);
                due(row + " in another one", x.outcome(0, (contest + 1) % 4, -1), 3);
            }
        }
    }

    // ---- Versions

    private static void versions() {
        said.section("Versions");
        said.says("To publish makes a version of the counts: it keeps the outcomes of all cards as they are then.");
        SmudgeTally x = scanned(0, dark(0, 6), dark(3, 5));
        for (int card = 2; card < 40; card++) x.scan(1, dark(card % 3, 0));
        x.publish();
        x.set(1, 7);
        x.clean(0);
        due("now", x.outcome(0, 0, -1), 5);
        due("then", x.outcome(0, 0, 0), 0);
        due("then, of another card", x.outcome(1, 1, 0), 5);
        due("then, of the last card", x.outcome(39, 3, 0), 3);
        due("cards", x.tally(3, 3, 0, -1), 40);
        said.says("There are at most 6 versions, numbered from 0.");
        SmudgeTally y = scanned(0, 600000L);
        for (int version = 0; version < 6; version++) {
            due("none yet", y.tally(2, 0, version, -1), INVALID);
            due("publish", y.publish(), 0);
            due("versions", y.count(4), version + 1);
            due("tally in it", y.tally(2, 0, version, -1), version + 1);
            y.scan(1 + version % 2, 600000L);
        }
        due("seventh", y.publish(), FULL);
        due("versions", y.count(4), 6);
        due("no version 6", y.tally(2, 0, 6, -1), INVALID);
        due("version 0 is as it was", y.tally(2, 0, 0, -1), 1);
        due("version 5 is as it was", y.tally(2, 0, 5, -1), 6);
        said.says("A card has changed in a version if it is a card of the version before, too, with another outcome in some"
            + " contest.");
        SmudgeTally z = scanned(0, 6006006006L, 6006006006L, dark(11, 5));
        due("the first version", z.publish(), 0);
        due("no card before it", z.changed(0, 0, 0), NONE);
        z.scan(1, dark(11, 5));
        z.set(2, 6);
        due("just one, and no new card", z.publish(), 1);
        due("the card", z.changed(1, 0, 0), 2);
        due("no other one", z.changed(1, 1, 0), NONE);
        z.set(2, 5);
        due("the new card is one now", z.publish(), 2);
        z.set(2, 6);
        z.set(2, 5);
        due("what changes back has not changed", z.publish(), 0);
        due("each contest", eachContest(), 4);
    }

    /** How many contests make a card change by themselves. */
    private static int eachContest() {
        int found = 0;
        for (int contest = 0; contest < 4; contest++) {
            SmudgeTally x = scanned(0, dark(3 * contest, 5));
            x.publish();
            x.set(2, 9);
            if (x.publish() == 1 && x.changed(1, 0, 1) == 1 << contest) found++;
        }
        return found;
    }

    private static void limit() {
        said.says("A version cannot be published if more than the limit (0 to 20, at first 5) of the cards that would have"
            + " changed in it have not been looked at.");
        due("five at first", changing(5).publish(), 5);
        due("six at first", changing(6).publish(), ILLEGAL);
        for (int limit = 0; limit <= 20; limit++) {
            SmudgeTally x = changing(limit + 1);
            x.set(3, limit);
            due("more than " + limit, x.publish(), ILLEGAL);
            due("versions", x.count(4), 1);
            SmudgeTally y = changing(limit);
            y.scan(0, 0);
            y.set(3, limit);
            due("just " + limit, y.publish(), limit);
        }
        SmudgeTally none = scanned(0, 0);
        none.publish();
        none.set(3, 0);
        due("none changes, the limit is 0", none.publish(), 0);
        said.range("limit", limit -> new SmudgeTally().set(3, limit), 0, 20);
        SmudgeTally z = changing(7);
        z.draw(0, 7);
        due("drawn ones are not looked at", z.publish(), ILLEGAL);
        z.look(0, 0);
        due("six are left", z.publish(), ILLEGAL);
        z.look(6, 0);
        due("five are left", z.publish(), 7);
        SmudgeTally first = new SmudgeTally();
        first.set(3, 0);
        for (int card = 0; card < 40; card++) first.scan(0, dark(0, 6));
        due("no card has changed in the first", first.publish(), 0);
    }

    // ---- Looks

    private static void looks() {
        said.section("Looks");
        said.says("A card can be looked at only if it has been drawn, and once;");
        SmudgeTally x = doubtful(2);
        due("not drawn", x.look(1, 0), ILLEGAL);
        x.draw(0, 2);
        due("drawn", x.look(1, 0), 1);
        due("once more", x.look(1, 0), ILLEGAL);
        due("once more with another truth", x.look(1, MOST), ILLEGAL);
        due("the other one", x.look(0, 0), 1);
        due("not doubtful any more", doubtlessLook(), 0);
        said.says("somebody tells the truth then, as 12 numbers of 0 to 9.");
        long[] rows = {0, 1, 12345678909L, 987654321098L, MOST, 1L << 32};
        for (long row : rows) {
            SmudgeTally y = doubtful(1);
            y.draw(0, 1);
            due("no truth yet", y.place(0, 3, 2), NONE);
            y.look(0, row);
            String digits = String.format("%012d", row);
            for (int place = 0; place < 12; place++) {
                due(digits + " at " + place, y.place(0, place, 2), digits.charAt(place) - '0');
            }
        }
    }

    /** A card that was drawn can be looked at, also if nothing in it is doubtful any more. */
    private static int doubtlessLook() {
        SmudgeTally x = doubtful(1);
        x.draw(0, 1);
        x.set(2, 6);
        return x.look(0, 0);
    }

    private static void pool() {
        said.says("The pool is made of the cards that have been neither drawn nor looked at,");
        SmudgeTally x = doubtful(3);
        due("three", x.count(3), 3);
        x.draw(0, 1);
        due("without the drawn one", x.count(3), 2);
        due("it", x.card(onlyDrawn(x), 5), 0);
        int seen = onlyDrawn(x);
        x.look(seen, dark(0, 5));
        x.publish();
        x.set(1, 5);
        due("it has another outcome now", x.outcome(seen, 0, -1) - x.outcome(seen, 0, 0), -3);
        due("but has been looked at", x.card(seen, 5), 0);
        due("the others have another one, too", x.count(3), 2);
        said.says("if they are doubtful in some contest");
        for (int place = 0; place < 12; place++) {
            due("doubt at " + place, scanned(0, dark(place, 4)).count(3), 1);
            due("no doubt at " + place, scanned(0, dark(place, 3)).count(3), 0);
            due("a mark at " + place, scanned(0, dark(place, 6)).count(3), 0);
        }
        due("too many is not doubtful", scanned(0, 665000000000L).count(3), 0);
        SmudgeTally past = scanned(0, dark(0, 5), dark(3, 4));
        due("both are doubtful", past.count(3), 2);
        past.set(2, 5);
        due("one of them no more", past.count(3), 1);
        past.set(1, 5);
        due("none of them any more", past.count(3), 0);
        said.says("or have another outcome in some contest than in the last version (of which they have to be cards).");
        due("changed ones", changing(40).count(3), 40);
        SmudgeTally y = scanned(0, dark(9, 6), dark(9, 9));
        due("no version", y.count(3), 0);
        y.publish();
        y.set(2, 9);
        y.set(1, 7);
        due("another outcome", y.card(0, 5), 1);
        due("the same outcome", y.card(1, 5), 0);
        y.scan(1, dark(9, 6));
        due("a card that is new", y.card(2, 5), 0);
        y.publish();
        due("as in the last version", y.count(3), 0);
        y.set(1, 6);
        due("as in the first version, but not the last one", y.card(0, 5), 1);
        due("and the new one, too", y.card(2, 5), 1);
    }

    private static void lots() {
        said.says("When some cards are drawn with a seed, x is the seed at first; for each card in turn x becomes (75 * x +"
            + " 74) left over by 65537, and the card of the pool whose place in it (from 0, by ascending numbers) is x left"
            + " over by the number of cards of the pool is drawn.");
        // 873 is the first seed that wraps around; from 45438 the lot becomes 0, and from 65536 it stays 65536.
        int[] seeds = {0, 1, 872, 873, 874, 45438, 65535, 65536};
        for (int seed : seeds) {
            for (int many = 1; many <= 40; many += 13) drawnLikeAList(seed, many);
        }
        drawnLikeAList(7, 39);
        SmudgeTally y = played("a0 a5 a0 a5");
        y.draw(0, 1);
        due("74 left over by 2: its first card", y.card(1, 3), 1);
        said.says("The pool is as it was before the first one was drawn, but without those that have been drawn since.");
        SmudgeTally x = doubtful(5);
        // From 11: 899, 1962, 16150; left over by 5, 4, 3: 4, 2, 1.
        due("three in turn", x.draw(11, 3), 3);
        int[] stages = {0, 1, 1, 0, 1};
        for (int card = 0; card < 5; card++) due("stage of " + card, x.card(card, 3), stages[card]);
        due("the pool then", x.count(3), 2);
        due("all of forty", doubtful(40).draw(5, 40), 40);
    }

    private static void drawnLikeAList(int seed, int many) {
        java.util.List<Integer> pool = new java.util.ArrayList<>();
        for (int card = 0; card < 40; card++) pool.add(card);
        long lot = seed;
        java.util.Set<Integer> drawn = new java.util.TreeSet<>();
        for (int i = 0; i < many; i++) {
            lot = (75 * lot + 74) % 65537;
            drawn.add(pool.remove((int) (lot % pool.size())));
        }
        SmudgeTally x = doubtful(40);
        x.draw(seed, many);
        java.util.Set<Integer> found = new java.util.TreeSet<>();
        for (int card = 0; card < 40; card++) if (x.card(card, 3) == 1) found.add(card);
        said.due("draw(" + seed + ", " + many + ")", found.toString(), drawn.toString());
    }

    // ---- Text

    private static void ran(String text, int due) {
        due("run of \"" + text + "\"", ran(doubtful(3), text), due);
    }

    private static void text() {
        said.section("Text");
        said.says("A text of at most 140 characters can be run as a program:");
        String scan = "scan 0 000000000001;";
        ran(scan.repeat(7), 7);
        ran(scan.repeat(6) + "                    ", 6);
        ran("clean 0;".repeat(17) + "    ", 17);
        SmudgeTally x = new SmudgeTally();
        write(x, scan.repeat(7));
        due("141st", x.append(';'), FULL);
        due("run", x.run(), 7);
        due("cards", x.count(0), 7);
        said.says("commands (possibly none),");
        ran("", 0);
        ran(" ", 0);
        ran(" ".repeat(140), 0);
        said.says("each of which ends with \";\",");
        ran("clean 0", -1007);
        ran("clean 0 clean 0;", -1008);
        ran("clean 0;;", -1008);
        ran("clean 0;clean 1", -1015);
        ran("clean 0;clean 1;", 2);
        said.says("a word and then numbers:");
        ran("0 clean;", -1000);
        ran("clean clean 0;", -1006);
        ran("clean 0 1;", -1008);
        ran("clean;", -1005);
    }

    private static void same(String text, ToIntFunction<SmudgeTally> call) {
        Supplier<SmudgeTally> before = () -> {
            SmudgeTally x = doubtful(3);
            x.draw(0, 1);
            return x;
        };
        String byRun = everything(() -> {
            SmudgeTally x = before.get();
            due("run of " + text, ran(x, text), 1);
            return x;
        });
        String byCall = everything(() -> {
            SmudgeTally x = before.get();
            due(text + " by a call succeeds", Math.min(0, call.applyAsInt(x)), 0);
            return x;
        });
        said.due(text, byRun, byCall);
    }

    private static void commands() {
        // Card 2 is the drawn one of three: 74 left over by 3.
        said.says("\"scan\" MACHINE ROW as scan()");
        same("scan 2 123456789012;", x -> x.scan(2, 123456789012L));
        same("scan 0 000000000000;", x -> x.scan(0, 0));
        same("scan 1 999999999999;", x -> x.scan(1, MOST));
        said.says("\"clean\" MACHINE as clean()");
        for (int machine = 0; machine < 3; machine++) {
            int cleaned = machine;
            same("clean " + machine + ";", x -> x.clean(cleaned));
        }
        said.says("\"draw\" SEED MANY as draw()");
        same("draw 0 1;", x -> x.draw(0, 1));
        same("draw 1 2;", x -> x.draw(1, 2));
        same("draw 65536 1;", x -> x.draw(65536, 1));
        said.says("\"look\" CARD ROW as look()");
        same("look 2 123456789012;", x -> x.look(2, 123456789012L));
        same("look 2 999999999999;", x -> x.look(2, MOST));
        said.says("\"publish\" as publish()");
        same("publish;", x -> x.publish());
        // Machines, seeds, numbers of cards and cards have the ranges that the calls give them.
        String[] refused = {"scan 3 000000000000;", "clean 3;", "draw 65537 1;", "draw 0 0;", "draw 0 41;",
            "look 3 000000000000;", "clean 99999;", "scan 99999 000000000000;", "draw 99999 99999;"};
        for (String text : refused) failed(text, 2, 0, 0, INVALID);
    }

    private static void failed(String text, int kind, int place, int commands, int code) {
        failed(doubtful(3), text, kind, place, commands, code);
    }

    private static void failed(SmudgeTally x, String text, int kind, int place, int commands, int code) {
        due("run of \"" + text + "\"", ran(x, text), -1000 - place);
        int[] due = {kind, place, commands, code};
        for (int what = 0; what < 4; what++) due("failure(" + what + ") of \"" + text + "\"", x.failure(what), due[what]);
    }

    private static void wrongToken(String text, int place) {
        failed(text, 1, place, 0, NONE);
    }

    private static void tokens() {
        said.says("Tokens are maximal runs of letters a to z,");
        String[] words = {"scans", "scanscan", "sca", "can", "aclean", "zclean", "cleana", "cleanz", "publishpublish", "a", "z"};
        for (String word : words) wrongToken(word + " 0;", 0);
        ran("clean0;", 1);
        // The signs on both sides of a and z, and great letters, are no letters.
        wrongToken("clean`0;", 5);
        wrongToken("clean{0;", 5);
        wrongToken("cleanZ0;", 5);
        wrongToken("CLEAN 0;", 0);
        wrongToken("Clean 0;", 0);
        wrongToken("clean" + (char) 225 + " 0;", 5);
        said.says("maximal runs of digits,");
        for (char digit = '0'; digit <= '2'; digit++) ran("clean " + digit + ";", 1);
        failed("clean 9;", 2, 0, 0, INVALID);
        wrongToken("draw 123456 1;", 5);
        wrongToken("scan 0000000000000;", 5);
        wrongToken("clean 0/;", 7);
        wrongToken("clean 0:;", 7);
        wrongToken("clean " + (char) 178 + ";", 6);
        wrongToken("clean 0" + (char) 178 + ";", 7);
        said.says("and any other character that is no space.");
        failed("clean 0;;;", 1, 8, 1, NONE);
        failed("clean 0;?!", 1, 8, 1, NONE);
        wrongToken("scan 0 ??", 7);
        for (int sign = 1; sign <= 255; sign++) {
            boolean letter = sign >= 'a' && sign <= 'z';
            boolean digit = sign >= '0' && sign <= '9';
            if (sign == ' ') ran((char) sign + "clean 0;", 1);
            else wrongToken((char) sign + "clean 0;", 0);
            if (sign == ' ') ran("clean 0" + (char) sign + ";", 1);
            else if (sign == ';') failed("clean 0;;", 1, 8, 1, NONE);
            else wrongToken("clean 0" + (char) sign + ";", digit ? 6 : 7);
            if (letter || digit || sign == ' ' || sign == ';') continue;
            wrongToken("clean 0 " + (char) sign + (char) sign, 8);
        }
    }

    private static void numbersAndSpaces() {
        said.says("A ROW is a run of exactly 12 digits,");
        for (int digits = 1; digits <= 14; digits++) {
            String row = "0".repeat(digits);
            if (digits == 12) ran("scan 0 " + row + ";", 1);
            else wrongToken("scan 0 " + row + ";", 7);
            if (digits == 12) failed("look 0 " + row + ";", 2, 0, 0, ILLEGAL);
            else wrongToken("look 0 " + row + ";", 7);
        }
        wrongToken("scan 0 ;", 7);
        wrongToken("scan 0 000000 000000;", 7);
        wrongToken("scan 0 00000000000a;", 7);
        wrongToken("scan 0 abcdefghijkl;", 7);
        wrongToken("look 0 publishclean;", 7);
        said.says("any other number a run of 1 to 5 digits,");
        wrongToken("clean ;", 6);
        failed("clean 12345;", 2, 0, 0, INVALID);
        wrongToken("clean 123456;", 6);
        wrongToken("clean 000000000000;", 6);
        ran("draw 65536 1;", 1);
        wrongToken("draw 100000 1;", 5);
        wrongToken("draw 1 100000;", 7);
        failed("draw 1 10000;", 2, 0, 0, INVALID);
        wrongToken("look 100000 000000000000;", 5);
        wrongToken("scan 4294967296 000000000000;", 5);
        said.says("the first of several not 0.");
        ran("clean 0;", 1);
        wrongToken("clean 00;", 6);
        wrongToken("clean 01;", 6);
        wrongToken("draw 00001 1;", 5);
        wrongToken("draw 1 01;", 7);
        wrongToken("scan 02 000000000000;", 5);
        wrongToken("look 00 000000000000;", 5);
        failed("draw 10000 100;", 2, 0, 0, INVALID);
        said.says("Spaces (code 32) may stand before, between and after tokens;");
        ran("   clean   0   ;   clean   1   ;   ", 2);
        ran("  scan  0  000000000000  ;  publish  ;  ", 2);
        wrongToken("cl ean 0;", 0);
        wrongToken("clean\t0;", 5);
        wrongToken("clean 0\n;", 7);
        wrongToken("clean" + (char) 160 + "0;", 5);
        said.says("they are needed only between two runs of letters and between two runs of digits.");
        ran("scan0 000000000000;clean0;draw0 1;publish;clean1;", 5);
        wrongToken("scan0000000000000;", 4);
        wrongToken("draw11;", 6);
        wrongToken("publish publish;", 8);
        wrongToken("publishpublish;", 0);
    }

    private static void failures() {
        said.says("The commands are read and run one by one, each as its \";\" is read.");
        failed("clean 3;nonsense", 2, 0, 0, INVALID);
        failed("clean 3 nonsense", 1, 8, 0, NONE);
        failed("clean 3", 1, 7, 0, NONE);
        failed(new SmudgeTally(), "publish;", 2, 0, 0, ILLEGAL);
        due("a card for the second one", ran(new SmudgeTally(), "scan 0 500000000000;publish;draw 0 1;look 0 000000000000;"), 4);
        said.says("A program fails at the first token that is not allowed where it stands (kind 1),");
        wrongToken("clean x y;", 6);
        wrongToken("set 0 4;", 0);
        wrongToken("undo;", 0);
        wrongToken("take 0;", 0);
        wrongToken("restore 0;", 0);
        wrongToken("run;", 0);
        failed("clean 0;clean 1;clean 0 0;", 1, 24, 2, NONE);
        said.says("and at the first command whose call returns an error code (kind 2; the place is then that of its word).");
        failed("  clean 4  ;", 2, 2, 0, INVALID);
        failed("clean 0; clean 1;  look 0 000000000000;clean 4;", 2, 19, 2, ILLEGAL);
        failed("draw 0 4;", 2, 0, 0, ILLEGAL);
        failed("look 3 000000000000;", 2, 0, 0, INVALID);
        SmudgeTally x = changing(6);
        failed(x, "clean 0;publish;", 2, 8, 1, ILLEGAL);
        SmudgeTally y = scanned(0, new long[40]);
        failed(y, "publish;publish;publish;publish;publish;publish;publish;", 2, 48, 6, FULL);
        failed(y, "publish;scan 0 000000000000;", 2, 8, 1, FULL);
        said.says("If a program fails, nothing that it has done stays (but the failure).");
        String[] texts = {
            "scan 0 000000000001;clean 0;clean 1;clean 2;publish;draw 0 1;clean 3;", "look 2 000000000000;clean 0 0;",
            "draw 0 2;look", "clean 2;publish;look 2 999999999999;draw 0 9;"};
        for (String text : texts) {
            due("run of " + text, afterRun(text, true).failure(0) > 0 ? 1 : 0, 1);
            said.due(text, everythingElse(() -> afterRun(text, true)), everythingElse(() -> afterRun(text, false)));
        }
        due("the text is kept", afterRun(texts[0], true).count(10), texts[0].length());
    }

    /** A tally with four states in the history and a text that fails if it is run. */
    private static SmudgeTally afterRun(String text, boolean run) {
        SmudgeTally x = scanned(0, dark(0, 5), dark(3, 5), dark(6, 5));
        x.take(1);
        x.draw(0, 1);
        write(x, text);
        if (run) x.run();
        return x;
    }

    private static void placesOfFailures() {
        said.says("The place of a failure is the offset (from 0) of the first character of the token,");
        wrongToken("x", 0);
        wrongToken("  clean  00;", 9);
        wrongToken(" ".repeat(139) + "x", 139);
        wrongToken(" ".repeat(138) + "12", 138);
        failed(" ".repeat(132) + "clean 3;", 2, 132, 0, INVALID);
        failed("clean 0;".repeat(16) + "     clean 0", 1, 140, 16, NONE);
        said.says("or the length of the text if it ends where something is missing.");
        String[] texts = {"clean", "clean ", "clean 0", "clean 0  ", "scan", "scan 0", "scan 0 000000000000", "draw 1",
            "draw 1 1 ", "look 1", "publish", " publish "};
        for (String text : texts) wrongToken(text, text.length());
        wrongToken("publish" + " ".repeat(133), 140);
        wrongToken(" ".repeat(133) + "publish", 140);
        due("a text that ends where nothing is missing", ran(doubtful(1), "publish; "), 1);
    }

    // ---- Snapshots

    private static void slots() {
        said.section("Snapshots");
        said.says("There are two slots for snapshots, empty at first.");
        SmudgeTally x = scanned(0, 1);
        due("slot 0", x.restore(0), ILLEGAL);
        due("slot 1", x.restore(1), ILLEGAL);
        due("snapshots", x.count(8), 0);
        said.range("slot to take", slot -> new SmudgeTally().take(slot), 0, 1);
        said.range("slot to restore", slot -> new SmudgeTally().restore(slot), 0, 1);
        for (int slot = 0; slot < 2; slot++) {
            SmudgeTally y = scanned(0, 1);
            y.take(slot);
            due("one snapshot", y.count(8), 1);
            due("the other slot", y.restore(1 - slot), ILLEGAL);
            y.scan(0, 2);
            y.take(1 - slot);
            due("each keeps its own", y.restore(slot), 1);
            due("each keeps its own", y.restore(1 - slot), 2);
        }
    }

    private static void changeAll(SmudgeTally x) {
        x.set(0, 2);
        x.set(1, 2);
        x.set(2, 3);
        x.set(3, 0);
        x.scan(1, MOST);
        x.scan(0, 1);
        x.look(0, 987654321098L);
        x.draw(1, 1);
        x.set(3, 20);
        x.publish();
        for (int machine = 0; machine < 3; machine++) x.clean(machine);
    }

    private static void snapshotParts() {
        said.says("A snapshot keeps everything but the text, the failure, the slots and the history.");
        SmudgeTally x = doubtful(2);
        x.take(0);
        x.scan(0, 0);
        x.take(1);
        write(x, "publish 0;");
        x.run();
        due("restore", x.restore(0), 2);
        due("the text", x.count(10), 10);
        due("the failure", x.failure(1), 8);
        due("the slots", x.count(8), 2);
        due("the history", x.count(9), 5);
        due("the other slot", x.restore(1), 3);
        due("undo", x.undo(), 4);
        due("goes back to before restoring", x.count(0), 2);
        said.says("To restore it makes all this as it was.");
        SmudgeTally y = doubtful(3);
        due("two are drawn", y.draw(0, 2), 2);
        y.publish();
        y.clean(1);
        y.take(1);
        String before = withoutHistory(y);
        changeAll(y);
        due("it is another state", withoutHistory(y).equals(before) ? 1 : 0, 0);
        y.restore(1);
        said.due("state", withoutHistory(y), before);
        for (int machine = 0; machine < 3; machine++) y.scan(machine, 0);
        int[] cleanings = {3, 1, 0};
        for (int machine = 0; machine < 3; machine++) due("cleanings", y.card(3 + machine, 2), cleanings[machine]);
        due("it stays", y.restore(1), 3);
        SmudgeTally z = new SmudgeTally();
        z.take(0);
        fill(z);
        z.take(1);
        before = withoutHistory(z);
        z.restore(0);
        fillOtherwise(z);
        due("it is another state", withoutHistory(z).equals(before) ? 1 : 0, 0);
        z.restore(1);
        said.due("state, where others have stood since", withoutHistory(z), before);
        due("versions, where others have stood since", restoredVersions(tally -> tally.restore(1)), 50505);
    }

    /** Three cards that have been looked at, two of them in a version. */
    private static void fill(SmudgeTally x) {
        x.clean(0);
        x.scan(0, dark(0, 5));
        x.scan(1, dark(0, 4));
        x.publish();
        x.scan(0, dark(0, 4));
        x.draw(0, 3);
        for (int card = 0; card < 3; card++) x.look(card, dark(card, 7));
    }

    /** Three others in their place, in two actions: no number, machine, truth or version is the same. */
    private static void fillOtherwise(SmudgeTally x) {
        x.set(1, 5);
        due("others", ran(x, "clean2;clean1;scan2 700000000000;publish;scan2 000400000000;scan1 900400000000;draw 0 2;"
            + "look1 900000000000;look2 900000000000;"), 9);
    }

    /** The outcomes of a card in six versions, when six others have stood in their place. */
    private static int restoredVersions(ToIntFunction<SmudgeTally> back) {
        SmudgeTally x = new SmudgeTally();
        x.take(0);
        x.scan(0, dark(0, 6));
        for (int version = 0; version < 6; version++) {
            x.set(1, 6 + version % 2);
            x.publish();
        }
        x.take(1);
        x.restore(0);
        due("others", ran(x, "scan1 000000000000;publish;publish;publish;publish;publish;publish;"), 7);
        for (int version = 0; version < 6; version++) due("another outcome", x.outcome(0, 0, version), 3);
        back.applyAsInt(x);
        back.applyAsInt(x);
        int outcomes = 0;
        for (int version = 0; version < 6; version++) outcomes = 10 * outcomes + x.outcome(0, 0, version);
        return outcomes;
    }

    private static String withoutHistory(SmudgeTally x) {
        StringBuilder told = new StringBuilder();
        for (int what = 0; what < 15; what++) if (what != 9) told.append(x.count(what)).append(' ');
        for (int card = 0; card < x.count(0); card++) {
            for (int what = 0; what < 6; what++) told.append(x.card(card, what)).append(' ');
            for (int what = 0; what < 3; what++) told.append(x.place(card, 0, what)).append(' ');
            told.append(x.runAt(card, 0, 0)).append(' ');
            told.append(x.outcome(card, 0, 0)).append(x.outcome(card, 0, 1)).append('\n');
        }
        return told.toString();
    }

    // ---- Undo

    private static void history() {
        said.section("Undo");
        said.says("A history of at most 5 states is kept;");
        SmudgeTally x = new SmudgeTally();
        for (int actions = 1; actions <= 12; actions++) {
            x.scan(0, actions);
            due("states", x.count(9), Math.min(5, actions));
        }
        said.says("a state is everything but the text, the failure and the history (the slots belong to it).");
        SmudgeTally y = doubtful(3);
        y.draw(0, 2);
        y.publish();
        y.take(1);
        String before = withoutHistory(y);
        String slotBefore = everythingElse(() -> undone("scan 2 000000000000;clean 0;", false));
        ran(y, "scan 0 000000000007;clean 0;look 2 999999999999;draw 1 1;publish;");
        due("it is another state", withoutHistory(y).equals(before) ? 1 : 0, 0);
        due("undo", y.undo(), 4);
        said.due("state", withoutHistory(y), before);
        said.due("slots", everythingElse(() -> undone("scan 2 000000000000;clean 0;", true)), slotBefore);
        due("state, where others have stood since", refilled(), 0);
        due("versions, where others have stood since", restoredVersions(SmudgeTally::undo), 50505);
        write(y, "clean 7;");
        y.run();
        y.scan(0, 0);
        y.append(' ');
        y.undo();
        due("the text is no part of it", y.count(10), 9);
        due("the failure is none", y.failure(2), 0);
        due("the history is none", y.count(9), 4);
    }

    /** Goes back to cards in whose place others have stood since; answers how often that failed. */
    private static int refilled() {
        SmudgeTally x = new SmudgeTally();
        x.take(0);
        fill(x);
        String before = withoutHistory(x);
        x.restore(0);
        fillOtherwise(x);
        int wrong = withoutHistory(x).equals(before) ? 1 : 0;
        for (int i = 0; i < 3; i++) x.undo();
        return wrong + (withoutHistory(x).equals(before) ? 0 : 1);
    }

    /** Two slots are filled; a program and two other snapshots are undone, or never were. */
    private static SmudgeTally undone(String program, boolean done) {
        SmudgeTally x = new SmudgeTally();
        x.take(0);
        x.scan(1, 500000000000L);
        if (!done) return x;
        ran(x, program);
        x.take(0);
        x.take(1);
        for (int i = 0; i < 3; i++) x.undo();
        return x;
    }

    private static void records(String what, SmudgeTally x, ToIntFunction<SmudgeTally> call, int states) {
        int before = x.count(9);
        call.applyAsInt(x);
        due(what + " records", x.count(9) - before, states);
    }

    private static void historyActions() {
        said.says("Every successful call of a method that is called an action records the state before it (also if nothing"
            + " changes by it);");
        SmudgeTally drawn = new SmudgeTally();
        ran(drawn, "scan 0 500000000000;draw 0 1;");
        SmudgeTally taken = new SmudgeTally();
        taken.take(0);
        records("scan", new SmudgeTally(), x -> x.scan(0, 0), 1);
        records("clean", new SmudgeTally(), x -> x.clean(0), 1);
        records("set", new SmudgeTally(), x -> x.set(0, 5), 1);
        records("set to the same", new SmudgeTally(), x -> x.set(0, 4), 1);
        records("publish", scanned(0, 0), x -> x.publish(), 1);
        records("draw", doubtful(1), x -> x.draw(0, 1), 1);
        records("look", drawn, x -> x.look(0, 500000000000L), 1);
        records("take", new SmudgeTally(), x -> x.take(0), 1);
        records("take of the same", taken, x -> x.take(0), 1);
        records("restore", taken, x -> x.restore(0), 1);
        records("run", new SmudgeTally(), x -> x.run(), 1);
        records("a scan that fails", new SmudgeTally(), x -> x.scan(3, 0), 0);
        records("a program that fails", new SmudgeTally(), x -> ran(x, "clean 0;publish;"), 0);
        records("append", new SmudgeTally(), x -> x.append('a'), 0);
        records("clearText", new SmudgeTally(), x -> x.clearText(), 0);
        records("undo", scanned(0, 0), x -> x.undo(), -1);
        SmudgeTally same = new SmudgeTally();
        for (int i = 0; i < 5; i++) same.set(3, 5);
        for (int left = 4; left >= 0; left--) due("undo of nothing", same.undo(), left);
    }

    private static void historyOrder() {
        said.says("when a sixth one is recorded, the oldest one is dropped.");
        for (int actions = 1; actions <= 17; actions++) {
            SmudgeTally x = new SmudgeTally();
            for (int card = 0; card < actions; card++) x.scan(0, card);
            int states = Math.min(5, actions);
            for (int left = states - 1; left >= 0; left--) {
                due("undo", x.undo(), left);
                due("cards", x.count(0), actions - states + left);
            }
            due("no more", x.undo(), ILLEGAL);
            due("cards", x.count(0), actions - states);
        }
        said.says("undo() removes the latest state from the history and restores it.");
        SmudgeTally x = new SmudgeTally();
        due("no state", x.undo(), ILLEGAL);
        for (int value = 0; value <= 6; value++) x.set(3, value);
        due("undo", x.undo() * 100 + x.count(14), 405);
        due("undo", x.undo() * 100 + x.count(14), 304);
        for (int value = 10; value <= 12; value++) x.set(3, value);
        due("full again", x.count(9), 5);
        due("undo", x.undo() * 100 + x.count(14), 411);
        due("undo", x.undo() * 100 + x.count(14), 310);
        due("undo", x.undo() * 100 + x.count(14), 204);
        due("undo", x.undo() * 100 + x.count(14), 103);
        due("undo", x.undo() * 100 + x.count(14), 2);
        due("no state", x.undo(), ILLEGAL);
    }

    // ---- Errors

    /** Three cards, one looked at, one drawn, a version, both slots, a text, and a full history. */
    private static SmudgeTally rich() {
        SmudgeTally x = scanned(0, dark(0, 5), dark(0, 5), dark(0, 5));
        write(x, "clean 2;publish 1;");
        x.run();
        x.take(0);
        x.draw(0, 2);
        x.publish();
        x.look(2, dark(1, 7));
        x.take(1);
        return x;
    }

    private static void nothingChanges(String call, Supplier<SmudgeTally> made, ToIntFunction<SmudgeTally> error, int code) {
        due(call, error.applyAsInt(made.get()), code);
        String after = everything(() -> {
            SmudgeTally x = made.get();
            error.applyAsInt(x);
            return x;
        });
        said.due("all after " + call, after, everything(made));
    }

    private static void nothingChanges(String call, ToIntFunction<SmudgeTally> error, int code) {
        nothingChanges(call, TermsTest::rich, error, code);
    }

    private static void errorsChangeNothing() {
        said.section("Errors");
        said.says("A call that returns an error code changes nothing (a failure of a program is kept, however).");
        nothingChanges("scan(3, 1)", x -> x.scan(3, 1), INVALID);
        nothingChanges("scan(0, -1)", x -> x.scan(0, -1), INVALID);
        nothingChanges("clean(3)", x -> x.clean(3), INVALID);
        nothingChanges("set(0, 10)", x -> x.set(0, 10), INVALID);
        nothingChanges("set(4, 5)", x -> x.set(4, 5), INVALID);
        nothingChanges("draw(65537, 1)", x -> x.draw(65537, 1), INVALID);
        nothingChanges("draw(0, 0)", x -> x.draw(0, 0), INVALID);
        nothingChanges("draw(0, 41)", x -> x.draw(0, 41), INVALID);
        nothingChanges("draw(0, 3)", x -> x.draw(0, 3), ILLEGAL);
        nothingChanges("look(3, 0)", x -> x.look(3, 0), INVALID);
        nothingChanges("look(1, 1000000000000)", x -> x.look(1, MOST + 1), INVALID);
        nothingChanges("look(2, 0)", x -> x.look(2, 0), ILLEGAL);
        nothingChanges("look(0, 0)", x -> x.look(undrawn(x), 0), ILLEGAL);
        nothingChanges("take(2)", x -> x.take(2), INVALID);
        nothingChanges("restore(-1)", x -> x.restore(-1), INVALID);
        nothingChanges("append(256)", x -> x.append(256), INVALID);
        nothingChanges("failure(4)", x -> x.failure(4), INVALID);
        nothingChanges("count(15)", x -> x.count(15), INVALID);
        nothingChanges("card(3, 0)", x -> x.card(3, 0), INVALID);
        nothingChanges("place(0, 12, 0)", x -> x.place(0, 12, 0), INVALID);
        nothingChanges("runAt(0, 0, 3)", x -> x.runAt(0, 0, 3), INVALID);
        nothingChanges("outcome(0, 0, 1)", x -> x.outcome(0, 0, 1), INVALID);
        nothingChanges("tally(0, 0, 1, 0)", x -> x.tally(0, 0, 1, 0), INVALID);
        nothingChanges("changed(1, 0, 0)", x -> x.changed(1, 0, 0), INVALID);
        nothingChanges("leader(4, 0)", x -> x.leader(4, 0), INVALID);
        nothingChanges("error(3, 0)", x -> x.error(3, 0), INVALID);
        nothingChanges("byLength(1)", x -> x.byLength(1), INVALID);
        nothingChanges("drawn(-1)", x -> x.drawn(-1), INVALID);
        nothingChanges("seedFor(3)", x -> x.seedFor(3), INVALID);
        SmudgeTally x = rich();
        due("a program that fails", ran(x, "scan 1 000000000000;draw 1;"), -1026);
        due("its failure is kept", x.failure(1), 26);
        due("its text, too", x.count(10), 27);
        due("but not what it did", x.count(0), 3);
    }

    private static int undrawn(SmudgeTally x) {
        int card = 0;
        while (card < 2 && x.card(card, 3) != 0) card++;
        return card;
    }

    private static void errorsWithFullRows() {
        nothingChanges("publish() without cards", SmudgeTally::new, x -> x.publish(), ILLEGAL);
        nothingChanges("undo() of an empty history", SmudgeTally::new, x -> x.undo(), ILLEGAL);
        nothingChanges("restore() of an empty slot", () -> scanned(0, 1), x -> x.restore(0), ILLEGAL);
        nothingChanges("draw() of an empty pool", () -> scanned(0, 1), x -> x.draw(0, 1), ILLEGAL);
        nothingChanges("publish() over the limit", () -> changing(6), x -> x.publish(), ILLEGAL);
        nothingChanges("scan() of a 41st card", () -> scanned(1, new long[40]), x -> x.scan(0, 1), FULL);
        nothingChanges("append() of a 141st sign", () -> {
            SmudgeTally x = scanned(0, 1);
            write(x, "clean 2;" + " ".repeat(132));
            return x;
        }, x -> x.append(';'), FULL);
        nothingChanges("publish() of a seventh version", () -> {
            SmudgeTally x = scanned(0, dark(0, 6));
            for (int version = 0; version < 6; version++) x.publish();
            x.set(1, 7);
            return x;
        }, x -> x.publish(), FULL);
    }

    private static void orderOfErrors() {
        said.says("If several error conditions apply, the method returns the one that its description lists first;");
        SmudgeTally full = doubtful(40);
        due("scan: argument before room", full.scan(3, 0), INVALID);
        due("scan: argument before room", full.scan(0, MOST + 1), INVALID);
        due("scan: room", full.scan(0, 0), FULL);
        SmudgeTally x = changing(6);
        x.undo();
        x.undo();
        for (int version = 1; version < 6; version++) x.publish();
        due("publish: room", x.publish(), FULL);
        x.set(1, 9);
        due("publish: limit before room", x.publish(), ILLEGAL);
        x.set(3, 6);
        due("publish: room, just the limit", x.publish(), FULL);
        SmudgeTally empty = new SmudgeTally();
        due("draw: argument before pool", empty.draw(65537, 1), INVALID);
        due("draw: argument before pool", empty.draw(0, 41), INVALID);
        due("draw: argument before pool", empty.draw(0, 0), INVALID);
        due("draw: pool", empty.draw(0, 40), ILLEGAL);
        SmudgeTally looked = doubtful(2);
        due("look: argument before not drawn", looked.look(0, -1), INVALID);
        looked.draw(0, 2);
        looked.look(0, 0);
        due("look: argument before looked at", looked.look(0, MOST + 1), INVALID);
        due("look: looked at", looked.look(0, MOST), ILLEGAL);
        due("restore: argument before empty slot", empty.restore(2), INVALID);
        write(empty, " ".repeat(140));
        due("append: argument before room", empty.append(0), INVALID);
        due("append: argument before room", empty.append(256), INVALID);
        due("append: room", empty.append(255), FULL);
    }

    private static void noneComesLast() {
        said.says("NONE is no error, and it is returned only if no error condition applies.");
        SmudgeTally x = scanned(0, 0);
        x.publish();
        x.scan(0, 0);
        due("failure: none", x.failure(3), NONE);
        due("failure: no such part", x.failure(4), INVALID);
        due("place: not looked at", x.place(0, 0, 2), NONE);
        due("place: no such place", x.place(0, 12, 2), INVALID);
        due("place: no such card", x.place(2, 0, 2), INVALID);
        due("runAt: read as 0", x.runAt(0, 0, 2), NONE);
        due("runAt: no such part", x.runAt(0, 0, 3), INVALID);
        due("runAt: no such place", x.runAt(0, -1, 0), INVALID);
        due("outcome: no card of this version", x.outcome(1, 3, 0), NONE);
        due("outcome: no such contest", x.outcome(1, 4, 0), INVALID);
        due("outcome: no such version", x.outcome(1, 0, 1), INVALID);
        due("changed: not so many", x.changed(0, 0, 1), NONE);
        due("changed: no such part", x.changed(0, 0, 2), INVALID);
        due("changed: negative", x.changed(0, -1, 0), INVALID);
        due("drawn: empty pool", x.drawn(65536), NONE);
        due("drawn: no such seed", x.drawn(65537), INVALID);
        due("seedFor: not in the pool", x.seedFor(1), NONE);
        due("seedFor: no such card", x.seedFor(2), INVALID);
    }

    private static void constants() {
        said.says("`INVALID_ARGUMENT = -1`: An argument is out of range, or names something that does not exist.");
        due("INVALID_ARGUMENT", SmudgeTally.INVALID_ARGUMENT, -1);
        due("out of range", new SmudgeTally().scan(3, 0), -1);
        due("does not exist", new SmudgeTally().card(0, 0), -1);
        said.says("`ILLEGAL_STATE = -2`: The call is not possible in the present state.");
        due("ILLEGAL_STATE", SmudgeTally.ILLEGAL_STATE, -2);
        due("not possible", new SmudgeTally().undo(), -2);
        said.says("`CAPACITY_EXCEEDED = -3`: There is no room.");
        due("CAPACITY_EXCEEDED", SmudgeTally.CAPACITY_EXCEEDED, -3);
        due("no room", scanned(0, new long[40]).scan(0, 0), -3);
        said.says("`NONE = -9`: There is no such value.");
        due("NONE", SmudgeTally.NONE, -9);
        due("no such value", new SmudgeTally().drawn(0), -9);
        said.alsoSays("The constants:");
        said.alsoSays("Ahead of the calls `scan`, `clean`, `set` the interface says: ---- scanning.");
        said.alsoSays("Ahead of the calls `publish`, `draw`, `look` the interface says: ---- versions and looks.");
        said.alsoSays("Ahead of the calls `take`, `restore`, `undo` the interface says: ---- snapshots.");
        said.alsoSays("Ahead of the calls `append`, `clearText`, `run`, `failure` the interface says: ---- text.");
        said.alsoSays("Ahead of the calls `count`, `card`, `place`, `runAt`, `outcome`, `tally`, `changed`, `leader`,"
            + " `error` the interface says: ---- looking.");
        said.alsoSays("Ahead of the calls `byLength`, `drawn`, `seedFor` the interface says: ---- what could be, which"
            + " changes nothing.");
    }
}
