/** A tally of ballots whose scanners get dirty, as ../shared/DOC.md tells it. */
public final class SmudgeTally {
    public static final int INVALID_ARGUMENT = -1;
    public static final int ILLEGAL_STATE = -2;
    public static final int CAPACITY_EXCEEDED = -3;
    public static final int NONE = -9;

    private static final int MACHINES = 3;
    private static final int CARDS = 40;
    private static final int PLACES = 12;
    private static final int CONTESTS = 4;
    private static final int CHOICES = 3;
    private static final int SPOTS = CARDS * PLACES;
    private static final int VERSIONS = 6;
    private static final int SLOTS = 2;
    private static final int STATES = 5;
    private static final int TEXT_LENGTH = 140;
    private static final long GREATEST_ROW = 999999999999L;
    private static final int LOT = 65537;
    private static final int FAILURE_BASE = -1000;

    // A version that stands for the outcomes of now.
    private static final int NOW = -1;
    private static final int ALL_MACHINES = -1;

    // The outcomes 0 to 2 are the choices.
    private static final int BLANK = 3;
    private static final int TOO_MANY = 4;
    private static final int DOUBTFUL = 5;

    private static final int UNMARKED = 0;
    private static final int DOUBTED = 1;
    private static final int MARKED = 2;

    private static final int NOT_DRAWN = 0;
    private static final int DRAWN = 1;
    private static final int LOOKED_AT = 2;

    private static final int LEAST_LENGTH = 0;
    private static final int MARK_BOUND = 1;
    private static final int DOUBT_BOUND = 2;
    private static final int LIMIT = 3;
    private static final int NUMBERS = 4;
    // Where the numbers of set() begin among those of count().
    private static final int FIRST_NUMBER = 11;
    private static final int[] SMALLEST = {2, 1, 1, 0};
    private static final int[] GREATEST = {9, 9, 9, 20};

    // What the digit of a place is worth in a row.
    private static final long[] WORTH = {
        100000000000L, 10000000000L, 1000000000L, 100000000L, 10000000L, 1000000L,
        100000L, 10000L, 1000L, 100L, 10L, 1L
    };

    private static final int SPACE = 32;
    private static final int SEMICOLON = 59;

    private static final int END = 0;
    private static final int LETTERS = 1;
    private static final int DIGITS = 2;
    private static final int SIGN = 3;

    private static final int NO_WORD = -1;
    private static final int SCAN = 0;
    private static final int CLEAN = 1;
    private static final int DRAW = 2;
    private static final int LOOK = 3;
    private static final int PUBLISH = 4;

    private static final int NO_FAILURE = 0;
    private static final int WRONG_TOKEN = 1;
    private static final int WRONG_CALL = 2;

    private final Clerk clerk = new Clerk();
    private final Sight sight = clerk.sight;
    private final Books books = clerk.sight.books;
    private final Slots slots = new Slots();
    private final History history = new History();
    private final Program program = new Program();

    public SmudgeTally() {
    }

    // ---- scanning

    public int scan(int machine, long row) {
        history.prepare(books, slots);
        return recordIfDone(clerk.addCard(machine, row));
    }

    public int clean(int machine) {
        history.prepare(books, slots);
        return recordIfDone(clerk.cleanMachine(machine));
    }

    public int set(int what, int value) {
        history.prepare(books, slots);
        return recordIfDone(clerk.setNumber(what, value));
    }

    // ---- versions and looks

    public int publish() {
        history.prepare(books, slots);
        return recordIfDone(clerk.publishVersion());
    }

    public int draw(int seed, int many) {
        history.prepare(books, slots);
        return recordIfDone(clerk.drawCards(seed, many));
    }

    public int look(int card, long row) {
        history.prepare(books, slots);
        return recordIfDone(clerk.lookAt(card, row));
    }

    // ---- snapshots

    public int take(int slot) {
        if (!within(slot, 0, SLOTS - 1)) {
            return INVALID_ARGUMENT;
        }
        history.prepare(books, slots);
        slots.keep(slot, books);
        return recordIfDone(books.cards);
    }

    public int restore(int slot) {
        if (!within(slot, 0, SLOTS - 1)) {
            return INVALID_ARGUMENT;
        }
        if (!slots.isFull(slot)) {
            return ILLEGAL_STATE;
        }
        history.prepare(books, slots);
        slots.giveBack(slot, books);
        return recordIfDone(books.cards);
    }

    public int undo() {
        if (history.size == 0) {
            return ILLEGAL_STATE;
        }
        history.goBack(books, slots);
        return history.size;
    }

    // ---- text

    public int append(int character) {
        if (!within(character, 1, 255)) {
            return INVALID_ARGUMENT;
        }
        return program.text.add(character);
    }

    public int clearText() {
        return program.text.empty();
    }

    public int run() {
        history.prepare(books, slots);
        int commands = program.runWith(clerk);
        if (commands < 0) {
            history.giveBackPrepared(books, slots);
            return FAILURE_BASE - program.failPlace;
        }
        program.text.empty();
        return recordIfDone(commands);
    }

    public int failure(int what) {
        if (!within(what, 0, 3)) {
            return INVALID_ARGUMENT;
        }
        if (program.failKind == NO_FAILURE) {
            return NONE;
        }
        switch (what) {
            case 0:
                return program.failKind;
            case 1:
                return program.failPlace;
            case 2:
                return program.failCommands;
            default:
                return program.failCode;
        }
    }

    // ---- looking

    public int count(int what) {
        if (what >= FIRST_NUMBER && what < FIRST_NUMBER + NUMBERS) {
            return books.numbers[what - FIRST_NUMBER];
        }
        sight.workOut();
        switch (what) {
            case 0:
                return books.cards;
            case 1:
                return books.cardsInStage(LOOKED_AT);
            case 2:
                return books.cardsInStage(DRAWN);
            case 3:
                return sight.poolSize();
            case 4:
                return books.versions;
            case 5:
                return sight.cardsChanging();
            case 6:
                return sight.unseenChanging();
            case 7:
                return sight.streaks();
            case 8:
                return slots.snapshots();
            case 9:
                return history.size;
            case 10:
                return program.text.length;
            default:
                return INVALID_ARGUMENT;
        }
    }

    public int card(int card, int what) {
        if (!books.hasCard(card)) {
            return INVALID_ARGUMENT;
        }
        sight.workOut();
        switch (what) {
            case 0:
                return books.machines[card];
            case 1:
                return books.cardsOf(books.machines[card], card);
            case 2:
                return books.cleaningsBefore[card];
            case 3:
                return books.stages[card];
            case 4:
                return sight.doubtful[card];
            case 5:
                return sight.inPool(card) ? 1 : 0;
            default:
                return INVALID_ARGUMENT;
        }
    }

    public int place(int card, int place, int what) {
        if (!books.hasCard(card) || !within(place, 0, PLACES - 1)) {
            return INVALID_ARGUMENT;
        }
        sight.workOut();
        int spot = card * PLACES + place;
        switch (what) {
            case 0:
                return sight.read[spot];
            case 1:
                return sight.dirt[spot];
            case 2:
                return books.stages[card] == LOOKED_AT ? sight.truth[spot] : NONE;
            case 3:
                return sight.clear[spot];
            case 4:
                return sight.mark[spot];
            default:
                return INVALID_ARGUMENT;
        }
    }

    public int runAt(int card, int place, int what) {
        if (!books.hasCard(card) || !within(place, 0, PLACES - 1) || !within(what, 0, 2)) {
            return INVALID_ARGUMENT;
        }
        sight.workOut();
        int spot = card * PLACES + place;
        if (sight.runLength[spot] == 0) {
            return NONE;
        }
        switch (what) {
            case 0:
                return sight.runFirst[spot];
            case 1:
                return sight.runLast[spot];
            default:
                return sight.runLength[spot];
        }
    }

    public int outcome(int card, int contest, int version) {
        if (!books.hasCard(card) || !within(contest, 0, CONTESTS - 1)) {
            return INVALID_ARGUMENT;
        }
        if (version != NOW && !books.hasVersion(version)) {
            return INVALID_ARGUMENT;
        }
        if (card >= books.cardsIn(version)) {
            return NONE;
        }
        sight.workOut();
        return outcomeOf(sight.outcomesIn(version, card), contest);
    }

    public int tally(int contest, int outcome, int version, int machine) {
        if (!within(contest, 0, CONTESTS - 1) || !within(outcome, 0, DOUBTFUL)) {
            return INVALID_ARGUMENT;
        }
        if (version != NOW && !books.hasVersion(version)) {
            return INVALID_ARGUMENT;
        }
        if (machine != ALL_MACHINES && !within(machine, 0, MACHINES - 1)) {
            return INVALID_ARGUMENT;
        }
        sight.workOut();
        return sight.cardsWith(contest, outcome, version, machine);
    }

    public int changed(int version, int index, int what) {
        if (!books.hasVersion(version) || index < 0 || !within(what, 0, 1)) {
            return INVALID_ARGUMENT;
        }
        int card = books.changedCard(version, index);
        if (card < 0) {
            return NONE;
        }
        return what == 0 ? card : books.changesIn(version, card);
    }

    public int leader(int contest, int what) {
        if (!within(contest, 0, CONTESTS - 1) || !within(what, 0, 3)) {
            return INVALID_ARGUMENT;
        }
        sight.workOut();
        int choice = sight.leadingChoice(contest);
        int lead = sight.leadOf(contest, choice);
        int doubtful = sight.cardsWith(contest, DOUBTFUL, NOW, ALL_MACHINES);
        switch (what) {
            case 0:
                return choice;
            case 1:
                return lead;
            case 2:
                return doubtful;
            default:
                return lead > doubtful ? 1 : 0;
        }
    }

    public int error(int machine, int what) {
        if (!within(machine, 0, MACHINES - 1) || !within(what, 0, 2)) {
            return INVALID_ARGUMENT;
        }
        sight.workOut();
        int sum = 0;
        for (int card = 0; card < books.cards; card++) {
            if (books.machines[card] == machine && books.stages[card] == LOOKED_AT) {
                sum += sight.errorOf(card, what);
            }
        }
        return sum;
    }

    // ---- what could be, which changes nothing

    public int byLength(int length) {
        if (!within(length, SMALLEST[LEAST_LENGTH], GREATEST[LEAST_LENGTH])) {
            return INVALID_ARGUMENT;
        }
        sight.workOut();
        return sight.otherWith(length);
    }

    public int drawn(int seed) {
        if (!within(seed, 0, LOT - 1)) {
            return INVALID_ARGUMENT;
        }
        sight.workOut();
        int pool = sight.poolSize();
        if (pool == 0) {
            return NONE;
        }
        return sight.poolCard(nextLot(seed) % pool);
    }

    public int seedFor(int card) {
        if (!books.hasCard(card)) {
            return INVALID_ARGUMENT;
        }
        sight.workOut();
        int pool = sight.poolSize();
        if (pool == 0 || !sight.inPool(card)) {
            return NONE;
        }
        int wanted = sight.placeInPool(card);
        for (int seed = 0; seed < LOT; seed++) {
            if (nextLot(seed) % pool == wanted) {
                return seed;
            }
        }
        return NONE;
    }

    private int recordIfDone(int answer) {
        if (answer >= 0) {
            history.record();
        }
        return answer;
    }

    private static boolean within(int value, int smallest, int greatest) {
        return value >= smallest && value <= greatest;
    }

    private static boolean isRow(long row) {
        return row >= 0 && row <= GREATEST_ROW;
    }

    private static int nextLot(int lot) {
        return (75 * lot + 74) % LOT;
    }

    // The outcomes of a card stand in one number, three bits for each contest.
    private static int outcomeOf(int outcomes, int contest) {
        return (outcomes >> (3 * contest)) & 7;
    }

    private static int differingContests(int outcomes, int others) {
        int contests = 0;
        for (int contest = 0; contest < CONTESTS; contest++) {
            if (outcomeOf(outcomes, contest) != outcomeOf(others, contest)) {
                contests |= 1 << contest;
            }
        }
        return contests;
    }

    /** All that a snapshot keeps. */
    private static final class Books {
        int cards;
        int versions;
        final int[] machines = new int[CARDS];
        final int[] cleaningsBefore = new int[CARDS];
        final int[] stages = new int[CARDS];
        final long[] rows = new long[CARDS];
        final long[] truths = new long[CARDS];
        final int[] cleanings = new int[MACHINES];
        final int[] numbers = {4, 6, 4, 5};
        final int[] versionCards = new int[VERSIONS];
        final int[] versionOutcomes = new int[VERSIONS * CARDS];

        void copyFrom(Books other) {
            cards = other.cards;
            versions = other.versions;
            System.arraycopy(other.machines, 0, machines, 0, CARDS);
            System.arraycopy(other.cleaningsBefore, 0, cleaningsBefore, 0, CARDS);
            System.arraycopy(other.stages, 0, stages, 0, CARDS);
            System.arraycopy(other.rows, 0, rows, 0, CARDS);
            System.arraycopy(other.truths, 0, truths, 0, CARDS);
            System.arraycopy(other.cleanings, 0, cleanings, 0, MACHINES);
            System.arraycopy(other.numbers, 0, numbers, 0, NUMBERS);
            System.arraycopy(other.versionCards, 0, versionCards, 0, VERSIONS);
            System.arraycopy(other.versionOutcomes, 0, versionOutcomes, 0, VERSIONS * CARDS);
        }

        boolean hasCard(int card) {
            return card >= 0 && card < cards;
        }

        boolean hasVersion(int version) {
            return version >= 0 && version < versions;
        }

        int cardsInStage(int stage) {
            int found = 0;
            for (int card = 0; card < cards; card++) {
                if (stages[card] == stage) {
                    found++;
                }
            }
            return found;
        }

        int cardsOf(int machine, int end) {
            int found = 0;
            for (int card = 0; card < end && card < cards; card++) {
                if (machines[card] == machine) {
                    found++;
                }
            }
            return found;
        }

        int cardsIn(int version) {
            return hasVersion(version) ? versionCards[version] : cards;
        }

        int outcomesIn(int version, int card) {
            return hasVersion(version) && hasCard(card) ? versionOutcomes[version * CARDS + card] : 0;
        }

        void keepVersion(int[] outcomes) {
            if (versions >= VERSIONS || outcomes.length < cards) {
                return;
            }
            System.arraycopy(outcomes, 0, versionOutcomes, versions * CARDS, cards);
            versionCards[versions] = cards;
            versions++;
        }

        /** The contests in which the outcome of a card is another one than in the version before. */
        int changesIn(int version, int card) {
            if (version < 1 || card >= cardsIn(version - 1)) {
                return 0;
            }
            return differingContests(outcomesIn(version - 1, card), outcomesIn(version, card));
        }

        int changedCard(int version, int index) {
            int found = 0;
            for (int card = 0; card < cards; card++) {
                if (changesIn(version, card) == 0) {
                    continue;
                }
                if (found == index) {
                    return card;
                }
                found++;
            }
            return NONE;
        }
    }

    /** What follows from the books: right only after workOut(), and until they change. */
    private static final class Sight {
        final Books books = new Books();
        // The card that a run comes from: of the same machine, with no cleaning between; or -1.
        private final int[] previous = new int[CARDS];
        final int[] read = new int[SPOTS];
        final int[] truth = new int[SPOTS];
        final int[] runFirst = new int[SPOTS];
        final int[] runLast = new int[SPOTS];
        final int[] runLength = new int[SPOTS];
        // The dirt of the run, should it be a streak.
        private final int[] runDirt = new int[SPOTS];
        final int[] dirt = new int[SPOTS];
        final int[] clear = new int[SPOTS];
        final int[] mark = new int[SPOTS];
        final int[] outcomes = new int[CARDS];
        // The set of contests in which a card is doubtful.
        final int[] doubtful = new int[CARDS];
        // Whether a card would change in a version published now.
        final boolean[] changing = new boolean[CARDS];
        private final int[] outcomesBefore = new int[CARDS];

        void workOut() {
            for (int card = 0; card < books.cards; card++) {
                previous[card] = previousOf(card);
                readDigits(card);
            }
            for (int place = 0; place < PLACES; place++) {
                growRuns(place);
                closeRuns(place);
            }
            judgeWith(books.numbers[LEAST_LENGTH]);
            compareWithLast();
        }

        private int previousOf(int card) {
            for (int other = card - 1; other >= 0; other--) {
                if (books.machines[other] == books.machines[card]) {
                    return books.cleaningsBefore[other] == books.cleaningsBefore[card] ? other : -1;
                }
            }
            return -1;
        }

        private void readDigits(int card) {
            for (int place = 0; place < PLACES; place++) {
                int spot = card * PLACES + place;
                read[spot] = (int) (books.rows[card] / WORTH[place] % 10);
                truth[spot] = (int) (books.truths[card] / WORTH[place] % 10);
            }
        }

        /** Tells each card what is known of its run up to it. */
        private void growRuns(int place) {
            for (int card = 0; card < books.cards; card++) {
                int spot = card * PLACES + place;
                runFirst[spot] = card;
                runLast[spot] = card;
                runLength[spot] = read[spot] > 0 ? 1 : 0;
                runDirt[spot] = ownDirt(card, spot);
                int before = previous[card] * PLACES + place;
                if (previous[card] >= 0 && read[before] > 0 && read[spot] > 0) {
                    runFirst[spot] = runFirst[before];
                    runLength[spot] = runLength[before] + 1;
                    runDirt[spot] = Math.min(runDirt[before], runDirt[spot]);
                }
            }
        }

        /** Tells each card of a run what only the last one knows. */
        private void closeRuns(int place) {
            for (int card = books.cards - 1; card >= 0; card--) {
                int spot = card * PLACES + place;
                int before = previous[card] * PLACES + place;
                if (previous[card] >= 0 && read[before] > 0 && read[spot] > 0) {
                    runLast[before] = runLast[spot];
                    runLength[before] = runLength[spot];
                    runDirt[before] = runDirt[spot];
                }
            }
        }

        private int ownDirt(int card, int spot) {
            if (books.stages[card] != LOOKED_AT) {
                return read[spot];
            }
            return Math.max(0, read[spot] - truth[spot]);
        }

        private void judgeWith(int leastLength) {
            for (int card = 0; card < books.cards; card++) {
                boolean looked = books.stages[card] == LOOKED_AT;
                for (int place = 0; place < PLACES; place++) {
                    int spot = card * PLACES + place;
                    dirt[spot] = runLength[spot] >= leastLength ? runDirt[spot] : 0;
                    clear[spot] = looked ? truth[spot] : read[spot] - dirt[spot];
                    mark[spot] = markOf(clear[spot], looked);
                }
                outcomes[card] = 0;
                doubtful[card] = 0;
                for (int contest = 0; contest < CONTESTS; contest++) {
                    int outcome = judgedOutcome(card, contest);
                    outcomes[card] |= outcome << (3 * contest);
                    doubtful[card] |= outcome == DOUBTFUL ? 1 << contest : 0;
                }
            }
        }

        private int markOf(int value, boolean looked) {
            if (value >= books.numbers[MARK_BOUND]) {
                return MARKED;
            }
            return !looked && value >= books.numbers[DOUBT_BOUND] ? DOUBTED : UNMARKED;
        }

        private int judgedOutcome(int card, int contest) {
            int marks = 0;
            int doubts = 0;
            int marked = BLANK;
            for (int choice = 0; choice < CHOICES; choice++) {
                int found = mark[card * PLACES + contest * CHOICES + choice];
                if (found == MARKED) {
                    marks++;
                    marked = choice;
                } else if (found == DOUBTED) {
                    doubts++;
                }
            }
            if (marks > 1) {
                return TOO_MANY;
            }
            return doubts > 0 ? DOUBTFUL : marked;
        }

        private void compareWithLast() {
            int last = books.versions - 1;
            int known = books.hasVersion(last) ? books.versionCards[last] : 0;
            for (int card = 0; card < books.cards; card++) {
                changing[card] = card < known && outcomes[card] != books.versionOutcomes[last * CARDS + card];
            }
        }

        int streaks() {
            int found = 0;
            for (int card = 0; card < books.cards; card++) {
                for (int place = 0; place < PLACES; place++) {
                    int spot = card * PLACES + place;
                    if (runFirst[spot] == card && runLength[spot] >= books.numbers[LEAST_LENGTH]) {
                        found++;
                    }
                }
            }
            return found;
        }

        int outcomesIn(int version, int card) {
            if (!books.hasCard(card)) {
                return 0;
            }
            return version == NOW ? outcomes[card] : books.outcomesIn(version, card);
        }

        int cardsWith(int contest, int outcome, int version, int machine) {
            int found = 0;
            for (int card = 0; card < books.cards && card < books.cardsIn(version); card++) {
                boolean counts = machine == ALL_MACHINES || books.machines[card] == machine;
                if (counts && outcomeOf(outcomesIn(version, card), contest) == outcome) {
                    found++;
                }
            }
            return found;
        }

        int cardsChanging() {
            int found = 0;
            for (int card = 0; card < books.cards; card++) {
                if (changing[card]) {
                    found++;
                }
            }
            return found;
        }

        int unseenChanging() {
            int found = 0;
            for (int card = 0; card < books.cards; card++) {
                if (changing[card] && books.stages[card] != LOOKED_AT) {
                    found++;
                }
            }
            return found;
        }

        boolean inPool(int card) {
            if (card < 0 || card >= books.cards || books.stages[card] != NOT_DRAWN) {
                return false;
            }
            return doubtful[card] != 0 || changing[card];
        }

        int placeInPool(int end) {
            int found = 0;
            for (int card = 0; card < end && card < books.cards; card++) {
                if (inPool(card)) {
                    found++;
                }
            }
            return found;
        }

        int poolSize() {
            return placeInPool(books.cards);
        }

        int poolCard(int index) {
            int found = 0;
            for (int card = 0; card < books.cards; card++) {
                if (!inPool(card)) {
                    continue;
                }
                if (found == index) {
                    return card;
                }
                found++;
            }
            return NONE;
        }

        int leadingChoice(int contest) {
            int leading = 0;
            int most = -1;
            for (int choice = 0; choice < CHOICES; choice++) {
                int found = cardsWith(contest, choice, NOW, ALL_MACHINES);
                if (found > most) {
                    most = found;
                    leading = choice;
                }
            }
            return leading;
        }

        int leadOf(int contest, int leading) {
            int second = 0;
            for (int choice = 0; choice < CHOICES; choice++) {
                if (choice != leading) {
                    second = Math.max(second, cardsWith(contest, choice, NOW, ALL_MACHINES));
                }
            }
            return cardsWith(contest, leading, NOW, ALL_MACHINES) - second;
        }

        int errorOf(int card, int what) {
            if (!books.hasCard(card)) {
                return 0;
            }
            int sum = 0;
            for (int place = 0; place < PLACES; place++) {
                int spot = card * PLACES + place;
                int size = Math.abs(read[spot] - truth[spot]);
                if (what == 0) {
                    sum += size == 0 ? 0 : 1;
                } else if (what == 1) {
                    sum += size;
                } else {
                    sum += Math.abs(read[spot] - dirt[spot] - truth[spot]);
                }
            }
            return sum;
        }

        /** Counts the cards with other outcomes under another least length; workOut() is due after it. */
        int otherWith(int leastLength) {
            System.arraycopy(outcomes, 0, outcomesBefore, 0, CARDS);
            judgeWith(leastLength);
            int found = 0;
            for (int card = 0; card < books.cards; card++) {
                if (outcomes[card] != outcomesBefore[card]) {
                    found++;
                }
            }
            return found;
        }
    }

    /** Does what a call or a command asks; answers an error code before anything has changed. */
    private static final class Clerk {
        final Sight sight = new Sight();
        private final Books books = sight.books;

        int obey(int word, long first, long second) {
            switch (word) {
                case SCAN:
                    return addCard((int) first, second);
                case CLEAN:
                    return cleanMachine((int) first);
                case DRAW:
                    return drawCards((int) first, (int) second);
                case LOOK:
                    return lookAt((int) first, second);
                default:
                    return publishVersion();
            }
        }

        int addCard(int machine, long row) {
            if (!within(machine, 0, MACHINES - 1) || !isRow(row)) {
                return INVALID_ARGUMENT;
            }
            int card = books.cards;
            if (card >= CARDS) {
                return CAPACITY_EXCEEDED;
            }
            books.machines[card] = machine;
            books.rows[card] = row;
            books.truths[card] = 0;
            books.stages[card] = NOT_DRAWN;
            books.cleaningsBefore[card] = books.cleanings[machine];
            books.cards = card + 1;
            return card;
        }

        int cleanMachine(int machine) {
            if (!within(machine, 0, MACHINES - 1)) {
                return INVALID_ARGUMENT;
            }
            books.cleanings[machine]++;
            return books.cardsOf(machine, books.cards);
        }

        int setNumber(int what, int value) {
            if (!within(what, 0, NUMBERS - 1) || !within(value, SMALLEST[what], GREATEST[what])) {
                return INVALID_ARGUMENT;
            }
            int previous = books.numbers[what];
            books.numbers[what] = value;
            return previous;
        }

        int publishVersion() {
            sight.workOut();
            if (books.cards == 0 || sight.unseenChanging() > books.numbers[LIMIT]) {
                return ILLEGAL_STATE;
            }
            if (books.versions >= VERSIONS) {
                return CAPACITY_EXCEEDED;
            }
            int changing = sight.cardsChanging();
            books.keepVersion(sight.outcomes);
            return changing;
        }

        int drawCards(int seed, int many) {
            if (!within(seed, 0, LOT - 1) || !within(many, 1, CARDS)) {
                return INVALID_ARGUMENT;
            }
            sight.workOut();
            int pool = sight.poolSize();
            if (pool < many) {
                return ILLEGAL_STATE;
            }
            int lot = seed;
            for (int left = pool; left > 0 && left > pool - many; left--) {
                lot = nextLot(lot);
                int card = sight.poolCard(lot % left);
                if (books.hasCard(card)) {
                    books.stages[card] = DRAWN;
                }
            }
            return books.cardsInStage(DRAWN);
        }

        int lookAt(int card, long row) {
            if (!books.hasCard(card) || !isRow(row)) {
                return INVALID_ARGUMENT;
            }
            if (books.stages[card] != DRAWN) {
                return ILLEGAL_STATE;
            }
            sight.workOut();
            int before = sight.outcomes[card];
            books.stages[card] = LOOKED_AT;
            books.truths[card] = row;
            sight.workOut();
            return differingContests(before, sight.outcomes[card]);
        }
    }

    /** The snapshots. */
    private static final class Slots {
        private final Books[] kept = {new Books(), new Books()};
        private final boolean[] full = new boolean[SLOTS];

        void copyFrom(Slots other) {
            for (int slot = 0; slot < SLOTS; slot++) {
                full[slot] = other.full[slot];
                if (full[slot]) {
                    kept[slot].copyFrom(other.kept[slot]);
                }
            }
        }

        boolean isFull(int slot) {
            return within(slot, 0, SLOTS - 1) && full[slot];
        }

        void keep(int slot, Books books) {
            if (within(slot, 0, SLOTS - 1)) {
                kept[slot].copyFrom(books);
                full[slot] = true;
            }
        }

        void giveBack(int slot, Books books) {
            if (isFull(slot)) {
                books.copyFrom(kept[slot]);
            }
        }

        int snapshots() {
            int found = 0;
            for (int slot = 0; slot < SLOTS; slot++) {
                if (full[slot]) {
                    found++;
                }
            }
            return found;
        }
    }

    /** One state of the history. */
    private static final class State {
        private final Books books = new Books();
        private final Slots slots = new Slots();

        void keep(Books otherBooks, Slots otherSlots) {
            books.copyFrom(otherBooks);
            slots.copyFrom(otherSlots);
        }

        void giveBack(Books otherBooks, Slots otherSlots) {
            otherBooks.copyFrom(books);
            otherSlots.copyFrom(slots);
        }
    }

    /** The states that undo() can go back to, the oldest first, and behind them a prepared one. */
    private static final class History {
        int size;
        private final State[] states = {
            new State(), new State(), new State(), new State(), new State(), new State()
        };

        /** Keeps the state before a call, whose end decides if it is recorded. */
        void prepare(Books books, Slots slots) {
            if (size < states.length) {
                states[size].keep(books, slots);
            }
        }

        void giveBackPrepared(Books books, Slots slots) {
            if (size < states.length) {
                states[size].giveBack(books, slots);
            }
        }

        void record() {
            if (size < STATES) {
                size++;
                return;
            }
            State oldest = states[0];
            for (int next = 0; next < STATES; next++) {
                states[next] = states[next + 1];
            }
            states[STATES] = oldest;
        }

        void goBack(Books books, Slots slots) {
            if (size > 0) {
                size--;
                states[size].giveBack(books, slots);
            }
        }
    }

    /** The text, and the token that was read last in it. */
    private static final class Text {
        int length;
        int kind;
        int start;
        private int end;
        private final int[] signs = new int[TEXT_LENGTH];

        int add(int sign) {
            if (length >= TEXT_LENGTH) {
                return CAPACITY_EXCEEDED;
            }
            signs[length] = sign;
            length++;
            return length;
        }

        int empty() {
            int previous = length;
            length = 0;
            return previous;
        }

        void rewind() {
            end = 0;
        }

        void readToken() {
            while (end < length && signs[end] == SPACE) {
                end++;
            }
            start = end;
            if (end >= length) {
                kind = END;
                return;
            }
            kind = kindOf(signs[end]);
            end++;
            while (kind != SIGN && end < length && kindOf(signs[end]) == kind) {
                end++;
            }
        }

        private static int kindOf(int sign) {
            if (sign >= 'a' && sign <= 'z') {
                return LETTERS;
            }
            return sign >= '0' && sign <= '9' ? DIGITS : SIGN;
        }

        boolean isWord(String word) {
            if (kind != LETTERS || end - start != word.length()) {
                return false;
            }
            for (int next = start; next < end; next++) {
                if (signs[next] != word.charAt(next - start)) {
                    return false;
                }
            }
            return true;
        }

        boolean isNumber() {
            if (kind != DIGITS || end - start > 5) {
                return false;
            }
            return end - start == 1 || signs[start] != '0';
        }

        boolean isWholeRow() {
            return kind == DIGITS && end - start == PLACES;
        }

        boolean isSemicolon() {
            return kind == SIGN && signs[start] == SEMICOLON;
        }

        long value() {
            long value = 0;
            for (int next = start; next < end; next++) {
                value = 10 * value + signs[next] - '0';
            }
            return value;
        }
    }

    /** Runs the text, and keeps the latest failure. */
    private static final class Program {
        final Text text = new Text();
        int failKind = NO_FAILURE;
        int failPlace;
        int failCommands;
        int failCode;
        private long first;
        private long second;

        /** Answers the number of commands, or less than 0 if the program fails. */
        int runWith(Clerk clerk) {
            text.rewind();
            // Each command takes characters of the text, so that the end comes before the bound.
            for (int commands = 0; commands <= TEXT_LENGTH; commands++) {
                text.readToken();
                if (text.kind == END) {
                    return commands;
                }
                int wordPlace = text.start;
                int word = wordHere();
                if (word == NO_WORD || !readNumbers(word) || !readSemicolon()) {
                    return fail(WRONG_TOKEN, text.start, commands, NONE);
                }
                int answer = clerk.obey(word, first, second);
                if (answer < 0) {
                    return fail(WRONG_CALL, wordPlace, commands, answer);
                }
            }
            return TEXT_LENGTH;
        }

        private int wordHere() {
            if (text.isWord("scan")) {
                return SCAN;
            }
            if (text.isWord("clean")) {
                return CLEAN;
            }
            if (text.isWord("draw")) {
                return DRAW;
            }
            if (text.isWord("look")) {
                return LOOK;
            }
            return text.isWord("publish") ? PUBLISH : NO_WORD;
        }

        private boolean readNumbers(int word) {
            if (word == PUBLISH) {
                return true;
            }
            text.readToken();
            if (!text.isNumber()) {
                return false;
            }
            first = text.value();
            if (word == CLEAN) {
                return true;
            }
            text.readToken();
            if (word == DRAW ? !text.isNumber() : !text.isWholeRow()) {
                return false;
            }
            second = text.value();
            return true;
        }

        private boolean readSemicolon() {
            text.readToken();
            return text.isSemicolon();
        }

        private int fail(int kind, int place, int commands, int code) {
            failKind = kind;
            failPlace = place;
            failCommands = commands;
            failCode = code;
            return NONE;
        }
    }
}
