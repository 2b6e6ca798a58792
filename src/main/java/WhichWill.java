import java.util.Arrays;

/**
 * A desk where it is found out which will stands: an ESTATE and its PAPERS are told as texts on a
 * tape, EVENTS by calls; every ORDER and every row of FACTS that may be so is a WAY, and each WAY
 * is worked out anew from what was told.
 */
public final class WhichWill {
    public static final int NONE = -1;
    public static final int RANGE = -2;
    public static final int FULL = -3;
    public static final int STATE = -4;

    // A gain may be below 0, so its RANGE lies where no gain can be.
    private static final int NO_STORY = -1000000;
    private static final int MOST_LANDS = 4;
    private static final int MOST_PEOPLE = 8;
    private static final int MOST_THINGS = 8;
    private static final int MOST_PAPERS = 4;
    private static final int MOST_EVENTS = 3;
    private static final int MOST_ITEMS = 6;
    private static final int MOST_ORDERS = 720;
    private static final int MOST_STORIES = 8;
    private static final int MOST_GIFTS = 8;
    private static final int FACTS = 3;
    private static final int FACT_ROWS = 8;
    private static final int LAST_DAY = 9999;
    private static final int GREATEST_SUM = 99999;

    private final Tape tape;
    private final Matter matter;
    private final Shares shares;
    private final Outcomes outcomes;
    private final Stories stories;
    private final Mender mender;
    private final int[] offers;
    private int faultKind;
    private int faultPlace;

    public WhichWill() {
        tape = new Tape();
        matter = new Matter();
        shares = new Shares(matter);
        outcomes = new Outcomes(matter, shares);
        stories = new Stories(matter, outcomes);
        mender = new Mender(matter, shares);
        offers = new int[MOST_PEOPLE];
        faultKind = 0;
        faultPlace = NONE;
    }

    public int feed(int a, int b, int c, int d, int e) {
        if (!tape.hasRoomForFeed()) {
            return FULL;
        }
        tape.putFour(a);
        tape.putFour(b);
        tape.putFour(c);
        tape.putFour(d);
        tape.putFour(e);
        return tape.length;
    }

    public int end(int n) {
        if (n < 0 || n > tape.length) {
            return NONE;
        }
        tape.length = n;
        return n;
    }

    public int estate() {
        boolean isRead = matter.draft.readText(tape);
        keepFault();
        if (!isRead) {
            return NONE;
        }
        matter.takeDraft();
        stories.told = 0;
        return matter.estate.clauses;
    }

    public int paper() {
        if (matter.papersTold >= MOST_PAPERS || matter.itemsTold() >= MOST_ITEMS) {
            tape.empty();
            return FULL;
        }
        int paper = matter.papersTold;
        boolean isRead = matter.papers[paper].readText(tape, matter.estate, paper);
        keepFault();
        if (!isRead) {
            return NONE;
        }
        matter.takePaper();
        return paper;
    }

    public int fault(int what) {
        if (what == 0) {
            return faultKind;
        }
        return what == 1 ? faultPlace : NONE;
    }

    public int event(int kind, int paper, int first, int last, int fact) {
        if (kind < Event.WEDDING || kind > Event.LOST) {
            return RANGE;
        }
        if (kind >= Event.TORN && !isPaper(paper)) {
            return RANGE;
        }
        if (first < 0 || last > LAST_DAY || first > last) {
            return RANGE;
        }
        if (fact < NONE || fact >= FACTS) {
            return RANGE;
        }
        if (matter.eventsTold >= MOST_EVENTS || matter.itemsTold() >= MOST_ITEMS) {
            return FULL;
        }
        matter.addEvent(kind, paper, first, last, fact);
        return matter.eventsTold - 1;
    }

    public int told(int what) {
        Estate estate = matter.estate;
        switch (what) {
            case 0: return estate.lands.size;
            case 1: return estate.people.size;
            case 2: return estate.things.size;
            case 3: return matter.papersTold;
            case 4: return matter.eventsTold;
            case 5: return estate.money;
            case 6: return estate.owed;
            case 7: return estate.court;
            case 8: return estate.home;
            case 9: return estate.born;
            case 10: return estate.wife;
            default: return toldOfOne(estate, what);
        }
    }

    public int rule(int land, int what) {
        if (!isLand(land) || what < 0 || what >= Estate.RULES) {
            return RANGE;
        }
        return matter.estate.ruleOf(land, what);
    }

    public int look(int paper, int what) {
        if (!isPaper(paper)) {
            return RANGE;
        }
        Paper told = matter.papers[paper];
        switch (what) {
            case 0: return told.first;
            case 1: return told.last;
            case 2: return told.isMarked(Paper.HAND) ? 1 : 0;
            case 3: return told.isMarked(Paper.PENCIL) ? 1 : 0;
            case 4: return told.isMarked(Paper.SIGNED) ? 1 : 0;
            case 5: return told.witnesses;
            case 6: return told.gifts;
            case 7: return told.rest;
            case 8: return told.undoesAll ? 1 : 0;
            case 9: return told.undoes;
            case 10: return told.wakes;
            case 11: return told.with;
            default: return RANGE;
        }
    }

    public int orders() {
        return matter.ordersFound;
    }

    public int item(int order, int i) {
        if (order < 0 || order >= matter.ordersFound) {
            return RANGE;
        }
        return i < 0 || i >= matter.itemsTold() ? NONE : matter.itemAt(order, i);
    }

    public int ahead(int a, int b) {
        if (!isItem(a) || !isItem(b) || a == b) {
            return RANGE;
        }
        if (matter.ordersFound == 0) {
            return NONE;
        }
        int yes = 0;
        for (int order = 0; order < matter.ordersFound; order++) {
            yes += matter.isAhead(order, a, b) ? 1 : 0;
        }
        if (yes == 0) {
            return 0;
        }
        return yes == matter.ordersFound ? 1 : 2;
    }

    public int law(int thing) {
        if (thing != NONE && !isThing(thing)) {
            return RANGE;
        }
        return matter.estate.lands.size == 0 ? NONE : matter.estate.lawAndRing(thing) >> 1;
    }

    public int ring(int thing) {
        if (thing != NONE && !isThing(thing)) {
            return RANGE;
        }
        return matter.estate.lands.size == 0 ? NONE : matter.estate.lawAndRing(thing) & 1;
    }

    public int good(int paper, int land) {
        if (!isPaper(paper) || !isLand(land)) {
            return RANGE;
        }
        return matter.papers[paper].isGoodBy(matter.estate, land, 0) ? 1 : 0;
    }

    public int counts(int way, int land) {
        if (!isWay(way) || !isLand(land)) {
            return RANGE;
        }
        shares.makeReady();
        return shares.standingIn(way, land).counting;
    }

    public int undone(int paper, int way, int land) {
        if (!isPaper(paper) || !isWay(way) || !isLand(land)) {
            return RANGE;
        }
        shares.makeReady();
        return shares.standingIn(way, land).undoneBy[paper];
    }

    public int ways() {
        return matter.waysFound();
    }

    public int goes(int thing, int way) {
        if (!isThing(thing) || !isWay(way)) {
            return RANGE;
        }
        shares.makeReady();
        shares.takeWayFor(thing, way);
        shares.partThing(thing);
        return shares.gettersOfParts();
    }

    public int how(int thing, int way) {
        if (!isThing(thing) || !isWay(way)) {
            return RANGE;
        }
        shares.makeReady();
        shares.takeWayFor(thing, way);
        return shares.partThing(thing);
    }

    public int paid(int person, int way) {
        if (!isPerson(person) || !isWay(way)) {
            return RANGE;
        }
        shares.makeReady();
        shares.takeWay(way);
        shares.partMoney();
        return shares.paidTo[person];
    }

    public int sum(int person, int way) {
        if (!isPerson(person) || !isWay(way)) {
            return RANGE;
        }
        shares.makeReady();
        shares.takeWay(way);
        shares.addUp();
        return shares.sums[person];
    }

    public int lack(int way) {
        if (!isWay(way)) {
            return RANGE;
        }
        shares.makeReady();
        shares.takeWay(way);
        shares.addUp();
        return shares.shortOfForce();
    }

    public int sure(int person, boolean greatest) {
        if (!isPerson(person)) {
            return RANGE;
        }
        if (matter.waysFound() == 0) {
            return NONE;
        }
        outcomes.bringUpToDate();
        return greatest ? outcomes.greatestOf(person) : outcomes.leastOf(1 << person);
    }

    public int surely(int thing) {
        if (!isThing(thing)) {
            return RANGE;
        }
        int ways = matter.waysFound();
        if (ways == 0) {
            return NONE;
        }
        shares.makeReady();
        int unused = matter.unusedFacts();
        int all = NONE;
        for (int way = 0; way < ways; way++) {
            if ((way & unused) != 0) {
                continue;
            }
            shares.takeWayFor(thing, way);
            shares.partThing(thing);
            int getters = shares.gettersOfParts();
            if (all != NONE && all != getters) {
                return NONE;
            }
            all = getters;
        }
        return all;
    }

    public int hangs(int fact) {
        if (fact < 0 || fact >= FACTS) {
            return RANGE;
        }
        if (matter.waysFound() == 0) {
            return NONE;
        }
        outcomes.bringUpToDate();
        return outcomes.hangOn(fact) ? 1 : 0;
    }

    public int outcomes() {
        outcomes.bringUpToDate();
        return outcomes.size;
    }

    public int ask() {
        outcomes.bringUpToDate();
        return outcomes.bestQuestion();
    }

    public int says(int person, int fact, int so) {
        if (!isPerson(person) || fact < 0 || fact >= FACTS || so < 0 || so > 1) {
            return RANGE;
        }
        return stories.told >= MOST_STORIES ? FULL : stories.addFact(person, fact, so);
    }

    public int tells(int person, int a, int b) {
        if (!isPerson(person) || !isItem(a) || !isItem(b) || a == b) {
            return RANGE;
        }
        return stories.told >= MOST_STORIES ? FULL : stories.addAhead(person, a, b);
    }

    public int stories(int what) {
        if (matter.waysFound() == 0 || what < 0 || what > 2) {
            return NONE;
        }
        stories.weigh();
        if (what == 0) {
            return stories.fewest;
        }
        return what == 1 ? stories.surelyFalse : stories.waysWithFewest;
    }

    public int gain(int story) {
        if (story < 0 || story >= stories.told) {
            return NO_STORY;
        }
        if (matter.waysFound() == 0) {
            return NONE;
        }
        outcomes.bringUpToDate();
        return stories.gainBy(story);
    }

    public int settle() {
        boolean isRow = readOffers();
        tape.empty();
        if (!isRow) {
            return NONE;
        }
        if (matter.waysFound() == 0) {
            return STATE;
        }
        outcomes.bringUpToDate();
        int sets = 1 << matter.estate.people.size;
        for (int set = 1; set < sets; set++) {
            if (outcomes.leastOf(set) > offeredTo(set)) {
                return set;
            }
        }
        return 0;
    }

    public int floor(int set) {
        if (set < 0 || set >= 1 << matter.estate.people.size) {
            return RANGE;
        }
        if (matter.waysFound() == 0) {
            return NONE;
        }
        outcomes.bringUpToDate();
        return outcomes.leastOf(set);
    }

    public int mend(int paper, int thing, int person) {
        if (!isPaper(paper) || !isThing(thing) || !isPerson(person)) {
            return RANGE;
        }
        return matter.waysFound() == 0 ? NONE : mender.fewestChanges(paper, thing, person);
    }

    public int count(int what) {
        switch (what) {
            case 0: return matter.estate.clauses;
            case 1: return stories.told;
            case 2: return matter.itemsTold();
            case 3: return tape.length;
            default: return NONE;
        }
    }

    private static int toldOfOne(Estate estate, int what) {
        if (what >= 20 && what < 20 + estate.things.size) {
            return estate.worths[what - 20];
        }
        if (what >= 30 && what < 30 + estate.things.size) {
            return estate.places[what - 30];
        }
        if (what >= 40 && what < 40 + estate.people.size) {
            return estate.isDead(what - 40) ? 1 : 0;
        }
        return NONE;
    }

    private void keepFault() {
        faultKind = tape.faultKind;
        faultPlace = tape.faultPlace;
        tape.empty();
    }

    private boolean readOffers() {
        int people = matter.estate.people.size;
        tape.open();
        for (int person = 0; person < people; person++) {
            offers[person] = tape.number(0, GREATEST_SUM);
        }
        return !tape.hasFailed() && tape.kind == Tape.END;
    }

    private int offeredTo(int set) {
        int offered = 0;
        for (int person = 0; person < MOST_PEOPLE; person++) {
            offered += (set >> person & 1) != 0 ? offers[person] : 0;
        }
        return offered;
    }

    private boolean isLand(int land) {
        return land >= 0 && land < matter.estate.lands.size;
    }

    private boolean isPerson(int person) {
        return person >= 0 && person < matter.estate.people.size;
    }

    private boolean isThing(int thing) {
        return thing >= 0 && thing < matter.estate.things.size;
    }

    private boolean isPaper(int paper) {
        return paper >= 0 && paper < matter.papersTold;
    }

    private boolean isItem(int item) {
        return item >= 0 && item < matter.itemsTold();
    }

    private boolean isWay(int way) {
        return way >= 0 && way < matter.waysFound();
    }

    /** THE TAPE, and the reading of it TOKEN by TOKEN up to the first FAULT. */
    private static final class Tape {
        static final int LONGEST = 900;
        static final int FEED = 20;
        static final int MOST_LETTERS = 8;
        static final int MOST_DIGITS = 5;

        static final int END = 0;
        static final int WORD = 1;
        static final int NUMBER = 2;
        static final int MARK = 3;
        static final int OTHER = 4;

        static final int SYNTAX = 1;
        static final int BOUNDS = 2;
        static final int TWICE = 3;
        static final int ROOM = 4;
        static final int UNKNOWN = 5;

        final byte[] bytes = new byte[LONGEST];
        int length;
        int kind;
        // A WORD as one number, five bits a letter: names can be kept when the tape is emptied.
        long code;
        int faultKind;
        int faultPlace = NONE;
        private int value;
        private int from;
        private int next;

        boolean hasRoomForFeed() {
            return length + FEED <= LONGEST;
        }

        void putFour(int four) {
            for (int shift = 24; shift >= 0; shift -= 8) {
                if (length < LONGEST) {
                    bytes[length] = (byte) (four >> shift);
                    length++;
                }
            }
        }

        void empty() {
            length = 0;
        }

        void open() {
            faultKind = 0;
            faultPlace = NONE;
            next = 0;
            step();
        }

        boolean hasFailed() {
            return faultKind != 0;
        }

        /** Whether another clause begins here. */
        boolean goesOn() {
            return faultKind == 0 && kind != END;
        }

        void fail(int fault) {
            if (faultKind == 0) {
                faultKind = fault;
                faultPlace = from;
                // No later step may find a TOKEN that it could take.
                kind = OTHER;
            }
        }

        /** Reads the next TOKEN; behind a FAULT none. */
        void step() {
            if (faultKind != 0) {
                return;
            }
            while (next < length && (bytes[next] == ' ' || bytes[next] == '\n')) {
                next++;
            }
            from = next;
            code = 0;
            while (next < length && bytes[next] >= 'a' && bytes[next] <= 'z') {
                code = (code << 5) + (bytes[next] - 'a' + 1);
                next++;
            }
            if (next > from) {
                kind = next - from <= MOST_LETTERS ? WORD : OTHER;
                return;
            }
            value = 0;
            while (next < length && bytes[next] >= '0' && bytes[next] <= '9') {
                value = value * 10 + (bytes[next] - '0');
                next++;
            }
            if (next > from) {
                kind = next - from <= MOST_DIGITS ? NUMBER : OTHER;
            } else if (next < length) {
                kind = bytes[next] == ';' ? MARK : OTHER;
                next++;
            } else {
                kind = END;
            }
        }

        boolean is(String word) {
            if (kind != WORD || next - from != word.length()) {
                return false;
            }
            for (int i = 0; i < word.length(); i++) {
                if (bytes[from + i] != word.charAt(i)) {
                    return false;
                }
            }
            return true;
        }

        /** Goes over a word if it stands here. */
        boolean passes(String word) {
            if (!is(word)) {
                return false;
            }
            step();
            return true;
        }

        void need(String word) {
            if (is(word)) {
                step();
            } else {
                fail(SYNTAX);
            }
        }

        /** Goes over one of four words (an empty one never stands) and answers which it was. */
        int chosen(String first, String second, String third, String fourth) {
            int which = 0;
            if (is(second)) {
                which = 1;
            } else if (is(third)) {
                which = 2;
            } else if (is(fourth)) {
                which = 3;
            } else if (!is(first)) {
                fail(SYNTAX);
            }
            step();
            return which;
        }

        void needMark() {
            if (kind == MARK) {
                step();
            } else {
                fail(SYNTAX);
            }
        }

        int number(int least, int most) {
            if (kind != NUMBER) {
                fail(SYNTAX);
                return least;
            }
            int here = value;
            if (here < least || here > most) {
                fail(BOUNDS);
                return least;
            }
            step();
            return here;
        }

        /** The number of one of the first papers, none of those that were taken; NONE with a FAULT. */
        int paperNumber(int papers, int taken) {
            if (kind == NUMBER && value < papers && (taken >> value & 1) != 0) {
                fail(TWICE);
            }
            int paper = number(0, papers - 1);
            return hasFailed() ? NONE : paper;
        }

        /** The number of a name that is known, none of those that were taken; NONE with a FAULT. */
        int known(Names names, int taken) {
            if (kind != WORD) {
                fail(SYNTAX);
                return NONE;
            }
            int which = names.find(code);
            if (which == NONE) {
                fail(UNKNOWN);
                return NONE;
            }
            if ((taken >> which & 1) != 0) {
                fail(TWICE);
                return NONE;
            }
            step();
            return which;
        }

        /** Whether a name stands here that none has. */
        boolean hasNewName(Names names) {
            if (kind != WORD) {
                fail(SYNTAX);
            } else if (names.find(code) != NONE) {
                fail(TWICE);
            }
            return !hasFailed();
        }
    }

    /** Names of one sort, numbered as they come. */
    private static final class Names {
        final long[] codes;
        int size;

        Names(int most) {
            codes = new long[most];
        }

        boolean isFull() {
            return size >= codes.length;
        }

        void add(long code) {
            if (size < codes.length) {
                codes[size] = code;
                size++;
            }
        }

        int find(long code) {
            for (int i = 0; i < size; i++) {
                if (codes[i] == code) {
                    return i;
                }
            }
            return NONE;
        }
    }

    /** An ESTATE: lands with their laws, people by their lines, things, money. */
    private static final class Estate {
        static final int SEEN = 0;
        static final int HAND = 1;
        static final int PENCIL = 2;
        static final int GAIN = 3;
        static final int WED = 4;
        static final int PART = 5;
        static final int TEAR = 6;
        static final int WAKE = 7;
        static final int LOST = 8;
        static final int WIFE = 9;
        static final int FORCE = 10;
        static final int HOUSE = 11;
        static final int MOVE = 12;
        static final int RULES = 13;

        static final int GAIN_VOID = 1;
        static final int GAIN_GIFT = 2;

        static final int THERE = 1;
        static final int AT_HOME = 2;
        static final int AT_BIRTH = 3;

        static final int ROLE_CHILD = 1;
        static final int ROLE_KIN = 2;

        final Names lands = new Names(MOST_LANDS);
        final Names people = new Names(MOST_PEOPLE);
        final Names things = new Names(MOST_THINGS);
        final int[] rules = new int[MOST_LANDS * RULES];
        final int[] roles = new int[MOST_PEOPLE];
        final int[] parents = new int[MOST_PEOPLE];
        final int[] worths = new int[MOST_THINGS];
        final int[] places = new int[MOST_THINGS];
        // STEMS of each person's own, as bits.
        final int[] kinStems = new int[MOST_PEOPLE];
        int stems;
        int dead;
        int wife = NONE;
        int court = NONE;
        int home = NONE;
        int born = NONE;
        int money;
        int owed;
        int clauses;
        // Clauses that may be told once, as bits, while a text is read.
        private int once;

        private void clear() {
            lands.size = 0;
            people.size = 0;
            things.size = 0;
            stems = 0;
            dead = 0;
            wife = NONE;
            court = NONE;
            home = NONE;
            born = NONE;
            money = 0;
            owed = 0;
            clauses = 0;
            once = 0;
        }

        boolean readText(Tape tape) {
            clear();
            tape.open();
            for (int i = 0; i < Tape.LONGEST && tape.goesOn(); i++) {
                readClause(tape);
                tape.needMark();
                clauses++;
            }
            if (tape.hasFailed()) {
                return false;
            }
            fillUntoldLands();
            findStems();
            return true;
        }

        private void readClause(Tape tape) {
            if (tape.is("land")) {
                readLand(tape);
            } else if (tape.is("court")) {
                court = readSeat(tape, 1);
            } else if (tape.is("home")) {
                home = readSeat(tape, 2);
            } else if (tape.is("born")) {
                born = readSeat(tape, 4);
            } else if (tape.is("person")) {
                readPerson(tape);
            } else if (tape.is("thing")) {
                readThing(tape);
            } else if (tape.is("money")) {
                money = readAmount(tape, 8);
            } else if (tape.is("owed")) {
                owed = readAmount(tape, 16);
            } else {
                tape.fail(Tape.SYNTAX);
            }
        }

        private void passOnce(Tape tape, int clause) {
            if ((once & clause) != 0) {
                tape.fail(Tape.TWICE);
            }
            once |= clause;
            tape.step();
        }

        private int readSeat(Tape tape, int clause) {
            passOnce(tape, clause);
            return tape.known(lands, 0);
        }

        private int readAmount(Tape tape, int clause) {
            passOnce(tape, clause);
            return tape.number(0, GREATEST_SUM);
        }

        private static void passUnlessFull(Tape tape, Names names) {
            if (names.isFull()) {
                tape.fail(Tape.ROOM);
            }
            tape.step();
        }

        private void readLand(Tape tape) {
            passUnlessFull(tape, lands);
            if (!tape.hasNewName(lands)) {
                return;
            }
            int land = lands.size;
            lands.add(tape.code);
            tape.step();
            setUntoldRules(land);
            int toldRules = 0;
            for (int i = 0; i <= RULES && tape.kind == Tape.WORD; i++) {
                int what = ruleNamed(tape);
                if (what == NONE) {
                    tape.fail(Tape.SYNTAX);
                } else if ((toldRules >> what & 1) != 0) {
                    tape.fail(Tape.TWICE);
                } else {
                    toldRules |= 1 << what;
                    tape.step();
                    rules[land * RULES + what] = readRule(tape, what);
                }
            }
        }

        private void setUntoldRules(int land) {
            int base = land * RULES;
            for (int what = 0; what < RULES; what++) {
                rules[base + what] = 0;
            }
            rules[base + SEEN] = 2;
            rules[base + WIFE] = 50;
        }

        private static int ruleNamed(Tape tape) {
            if (tape.is("seen")) {
                return SEEN;
            } else if (tape.is("hand")) {
                return HAND;
            } else if (tape.is("pencil")) {
                return PENCIL;
            } else if (tape.is("gain")) {
                return GAIN;
            } else if (tape.is("wed")) {
                return WED;
            } else if (tape.is("part")) {
                return PART;
            } else if (tape.is("tear")) {
                return TEAR;
            } else if (tape.is("wake")) {
                return WAKE;
            } else if (tape.is("lost")) {
                return LOST;
            } else if (tape.is("wife")) {
                return WIFE;
            } else if (tape.is("force")) {
                return FORCE;
            } else if (tape.is("house")) {
                return HOUSE;
            }
            return tape.is("move") ? MOVE : NONE;
        }

        private static int readRule(Tape tape, int what) {
            switch (what) {
                case SEEN: return tape.number(0, 3);
                case WIFE: return tape.number(0, 100);
                case FORCE: return tape.number(0, 90);
                case GAIN: return GAIN_VOID + tape.chosen("void", "gift", "", "");
                case HOUSE: return tape.chosen("own", "there", "home", "born");
                case MOVE: return tape.chosen("own", "", "home", "born");
                default: return 1;
            }
        }

        private void readPerson(Tape tape) {
            passUnlessFull(tape, people);
            if (!tape.hasNewName(people)) {
                return;
            }
            int person = people.size;
            long name = tape.code;
            tape.step();
            kinStems[person] = 0;
            parents[person] = NONE;
            roles[person] = readRole(tape, person);
            if (tape.passes("dead")) {
                dead |= 1 << person;
            }
            // Only now: nobody is kin of their own.
            people.add(name);
        }

        private int readRole(Tape tape, int person) {
            if (tape.is("wife")) {
                if (wife != NONE) {
                    tape.fail(Tape.TWICE);
                }
                wife = person;
            }
            int role = tape.chosen("wife", "child", "kin", "friend");
            if (role == ROLE_KIN) {
                parents[person] = tape.known(people, 0);
            }
            return role;
        }

        private void readThing(Tape tape) {
            passUnlessFull(tape, things);
            if (!tape.hasNewName(things)) {
                return;
            }
            int thing = things.size;
            things.add(tape.code);
            tape.step();
            worths[thing] = tape.number(1, 9999);
            places[thing] = tape.passes("in") ? tape.known(lands, 0) : NONE;
        }

        private void fillUntoldLands() {
            if (lands.size == 0) {
                return;
            }
            court = court == NONE ? 0 : court;
            home = home == NONE ? 0 : home;
            born = born == NONE ? 0 : born;
        }

        private void findStems() {
            // Kin come behind whom they are kin of, so theirs are known first.
            for (int person = people.size - 1; person >= 0; person--) {
                if (isDead(person) && kinStems[person] == 0) {
                    continue;
                }
                int parent = parents[person];
                if (roles[person] == ROLE_CHILD) {
                    stems |= 1 << person;
                } else if (parent >= 0 && parent < person) {
                    kinStems[parent] |= 1 << person;
                }
            }
        }

        boolean isDead(int person) {
            return (dead >> person & 1) != 0;
        }

        boolean isOfTheLine(int person) {
            return roles[person] == ROLE_CHILD || roles[person] == ROLE_KIN;
        }

        int ruleOf(int land, int what) {
            return rules[land * RULES + what];
        }

        int moneyThereIs() {
            return Math.max(0, money - owed);
        }

        /** Twice the land whose law holds for a thing (NONE: for what moves), and 1 if by a RING. */
        int lawAndRing(int thing) {
            int place = thing == NONE ? NONE : places[thing];
            int land = court;
            int met = 0;
            for (int i = 0; i < MOST_LANDS; i++) {
                met |= 1 << land;
                int named = landNamedBy(land, place);
                if (named == land) {
                    return land * 2;
                }
                if ((met >> named & 1) != 0) {
                    return named * 2 + 1;
                }
                land = named;
            }
            return land * 2;
        }

        private int landNamedBy(int land, int place) {
            switch (ruleOf(land, place == NONE ? MOVE : HOUSE)) {
                case THERE: return place == NONE ? land : place;
                case AT_HOME: return home;
                case AT_BIRTH: return born;
                default: return land;
            }
        }
    }

    /** A PAPER. */
    private static final class Paper {
        static final int HAND = 1;
        static final int PENCIL = 2;
        static final int SIGNED = 4;
        private static final int MADE = 8;
        private static final int REST = 16;
        private static final int WITH = 32;

        static final int MOST_WITNESSES = 3;
        static final int MOST_HEIRS = 4;

        static final int ALWAYS = 0;
        static final int IF_DEAD = 1;
        static final int IF_ALIVE = 2;
        static final int IF_SO = 3;
        static final int IF_NOT = 4;

        int first;
        int last;
        int witnesses;
        int rest;
        boolean undoesAll;
        int undoes;
        int wakes;
        int with;
        int gifts;
        // Of each GIFT: the thing (NONE for a pay), the sum of a pay, who gets it, and its IF.
        final int[] giftThing = new int[MOST_GIFTS];
        final int[] giftPay = new int[MOST_GIFTS];
        final int[] giftTo = new int[MOST_GIFTS];
        final int[] giftIf = new int[MOST_GIFTS];
        final int[] giftIfWhich = new int[MOST_GIFTS];
        private int marks;
        private int thingsGiven;
        // All to whom it gives, pays or leaves anything, as bits.
        private int gainers;

        private void clear() {
            first = 0;
            last = LAST_DAY;
            witnesses = 0;
            rest = 0;
            undoesAll = false;
            undoes = 0;
            wakes = 0;
            with = NONE;
            gifts = 0;
            marks = 0;
            thingsGiven = 0;
            gainers = 0;
        }

        boolean isMarked(int mark) {
            return (marks & mark) != 0;
        }

        boolean readText(Tape tape, Estate estate, int papers) {
            clear();
            tape.open();
            for (int i = 0; i < Tape.LONGEST && tape.goesOn(); i++) {
                readClause(tape, estate, papers);
                tape.needMark();
            }
            return !tape.hasFailed();
        }

        private void readClause(Tape tape, Estate estate, int papers) {
            if (tape.is("made")) {
                readDays(tape);
            } else if (tape.is("hand")) {
                passOnce(tape, HAND);
            } else if (tape.is("pencil")) {
                passOnce(tape, PENCIL);
            } else if (tape.is("signed")) {
                passOnce(tape, SIGNED);
            } else if (tape.is("by")) {
                readWitness(tape, estate);
            } else if (tape.is("give") || tape.is("pay")) {
                readGift(tape, estate);
            } else if (tape.is("rest")) {
                readRest(tape, estate);
            } else if (tape.passes("undo")) {
                readUndo(tape, papers);
            } else if (tape.passes("again")) {
                wakes |= bit(tape.paperNumber(papers, wakes));
            } else if (tape.is("with")) {
                passOnce(tape, WITH);
                with = tape.paperNumber(papers, 0);
            } else {
                tape.fail(Tape.SYNTAX);
            }
        }

        private static int bit(int number) {
            return number < 0 ? 0 : 1 << number;
        }

        private void passOnce(Tape tape, int mark) {
            if (isMarked(mark)) {
                tape.fail(Tape.TWICE);
            }
            marks |= mark;
            tape.step();
        }

        private void readDays(Tape tape) {
            passOnce(tape, MADE);
            first = tape.number(0, LAST_DAY);
            last = tape.number(first, LAST_DAY);
        }

        private void readWitness(Tape tape, Estate estate) {
            if (Integer.bitCount(witnesses) >= MOST_WITNESSES) {
                tape.fail(Tape.ROOM);
            }
            tape.step();
            witnesses |= bit(tape.known(estate.people, witnesses));
        }

        private void readGift(Tape tape, Estate estate) {
            if (gifts >= MOST_GIFTS) {
                tape.fail(Tape.ROOM);
                return;
            }
            giftThing[gifts] = NONE;
            giftPay[gifts] = 0;
            if (tape.passes("give")) {
                giftThing[gifts] = tape.known(estate.things, thingsGiven);
                thingsGiven |= bit(giftThing[gifts]);
            } else {
                tape.need("pay");
                giftPay[gifts] = tape.number(1, GREATEST_SUM);
            }
            tape.need("to");
            giftTo[gifts] = tape.known(estate.people, 0);
            gainers |= bit(giftTo[gifts]);
            readIf(tape, estate);
            gifts++;
        }

        private void readIf(Tape tape, Estate estate) {
            giftIf[gifts] = ALWAYS;
            giftIfWhich[gifts] = NONE;
            if (!tape.passes("if")) {
                return;
            }
            if (tape.passes("fact")) {
                giftIfWhich[gifts] = tape.number(0, FACTS - 1);
                giftIf[gifts] = tape.passes("not") ? IF_NOT : IF_SO;
                return;
            }
            giftIfWhich[gifts] = tape.known(estate.people, 0);
            if (tape.passes("dead")) {
                giftIf[gifts] = IF_DEAD;
            } else {
                tape.need("alive");
                giftIf[gifts] = IF_ALIVE;
            }
        }

        private void readRest(Tape tape, Estate estate) {
            passOnce(tape, REST);
            tape.need("to");
            rest |= bit(tape.known(estate.people, rest));
            for (int i = 0; i < MOST_PEOPLE && tape.is("and"); i++) {
                if (Integer.bitCount(rest) >= MOST_HEIRS) {
                    tape.fail(Tape.ROOM);
                }
                tape.step();
                rest |= bit(tape.known(estate.people, rest));
            }
            gainers |= rest;
        }

        private void readUndo(Tape tape, int papers) {
            if (tape.passes("paper")) {
                undoes |= bit(tape.paperNumber(papers, undoes));
            } else {
                undoesAll = true;
            }
        }

        /** Whether it is GOOD by a land's law, with CHANGES to it (bits). */
        boolean isGoodBy(Estate estate, int land, int changes) {
            boolean isSigned = isMarked(SIGNED) || (changes & Mender.SIGN) != 0;
            boolean isByHand = isMarked(HAND) || (changes & Mender.BY_HAND) != 0;
            boolean isInPencil = isMarked(PENCIL) && (changes & Mender.NOT_IN_PENCIL) == 0;
            if (!isSigned || isInPencil && estate.ruleOf(land, Estate.PENCIL) == 0) {
                return false;
            }
            if (isByHand && estate.ruleOf(land, Estate.HAND) != 0) {
                return true;
            }
            boolean isGainVoid = estate.ruleOf(land, Estate.GAIN) == Estate.GAIN_VOID;
            int counted = Integer.bitCount(isGainVoid ? witnesses & ~gainers : witnesses);
            if ((changes & Mender.ONE_MORE_WITNESS) != 0) {
                counted++;
            }
            return counted >= estate.ruleOf(land, Estate.SEEN);
        }

        boolean isIfSo(int gift, int dead, int facts) {
            int which = giftIfWhich[gift];
            switch (giftIf[gift]) {
                case IF_DEAD: return (dead >> which & 1) != 0;
                case IF_ALIVE: return (dead >> which & 1) == 0;
                case IF_SO: return (facts >> which & 1) != 0;
                case IF_NOT: return (facts >> which & 1) == 0;
                default: return true;
            }
        }

        int usedFacts() {
            int used = 0;
            for (int gift = 0; gift < gifts; gift++) {
                if (giftIf[gift] == IF_SO || giftIf[gift] == IF_NOT) {
                    used |= bit(giftIfWhich[gift]);
                }
            }
            return used;
        }
    }

    /** An EVENT. */
    private static final class Event {
        static final int WEDDING = 0;
        static final int PARTING = 1;
        static final int TORN = 2;
        static final int TORN_UNMEANT = 3;
        static final int LOST = 4;

        int kind;
        int paper;
        int first;
        int last;
        int fact;

        boolean isSo(int facts) {
            return fact < 0 || (facts >> fact & 1) != 0;
        }
    }

    /** All that is told: the ESTATE, its ITEMS, and the ORDERS in which these can have come. */
    private static final class Matter {
        Estate estate = new Estate();
        final Paper[] papers = new Paper[MOST_PAPERS];
        final Event[] events = new Event[MOST_EVENTS];
        int papersTold;
        int eventsTold;
        int ordersFound;
        // Told up with each change: what was worked out for another number is out of date.
        int changes;
        // A text with a FAULT must leave the ESTATE as it is, so texts are read into this one.
        Estate draft = new Estate();
        // Each ORDER as one number, three bits an ITEM, the first lowest.
        private final int[] rows = new int[MOST_ORDERS];
        private final int[] row = new int[MOST_ITEMS];

        Matter() {
            for (int i = 0; i < MOST_PAPERS; i++) {
                papers[i] = new Paper();
            }
            for (int i = 0; i < MOST_EVENTS; i++) {
                events[i] = new Event();
            }
            ordersFound = 1;
        }

        /** The text that was read into the draft holds; nothing else that was told does. */
        void takeDraft() {
            Estate old = estate;
            estate = draft;
            draft = old;
            papersTold = 0;
            eventsTold = 0;
            findOrders();
        }

        /** The text that was read behind the PAPERS told is one of them. */
        void takePaper() {
            if (papersTold < MOST_PAPERS) {
                papersTold++;
                findOrders();
            }
        }

        void addEvent(int kind, int paper, int first, int last, int fact) {
            if (eventsTold >= MOST_EVENTS) {
                return;
            }
            Event event = events[eventsTold];
            event.kind = kind;
            event.paper = paper;
            event.first = first;
            event.last = last;
            event.fact = fact;
            eventsTold++;
            findOrders();
        }

        int itemsTold() {
            return papersTold + eventsTold;
        }

        int waysFound() {
            return estate.lands.size == 0 ? 0 : ordersFound * FACT_ROWS;
        }

        /** FACTS of which nothing told speaks, as bits: by these WAYS do not differ. */
        int unusedFacts() {
            int used = 0;
            for (int i = 0; i < papersTold; i++) {
                used |= papers[i].usedFacts();
            }
            for (int i = 0; i < eventsTold; i++) {
                used |= events[i].fact < 0 ? 0 : 1 << events[i].fact;
            }
            return (FACT_ROWS - 1) & ~used;
        }

        int itemAt(int order, int i) {
            return rows[order] >> 3 * i & 7;
        }

        boolean isAhead(int order, int a, int b) {
            int items = itemsTold();
            for (int i = 0; i < items; i++) {
                int item = itemAt(order, i);
                if (item == a || item == b) {
                    return item == a;
                }
            }
            return false;
        }

        private void findOrders() {
            changes++;
            int items = itemsTold();
            for (int i = 0; i < items; i++) {
                row[i] = i;
            }
            ordersFound = 0;
            boolean goesOn = true;
            for (int i = 0; i < MOST_ORDERS && goesOn; i++) {
                if (hasDays(items)) {
                    rows[ordersFound] = packedRow(items);
                    ordersFound++;
                }
                goesOn = stepRow(items);
            }
        }

        private boolean hasDays(int items) {
            int day = 0;
            for (int i = 0; i < items; i++) {
                day = Math.max(day, firstDay(row[i]));
                if (day > lastDay(row[i])) {
                    return false;
                }
            }
            return true;
        }

        private int firstDay(int item) {
            return item < papersTold ? papers[item].first : events[item - papersTold].first;
        }

        private int lastDay(int item) {
            return item < papersTold ? papers[item].last : events[item - papersTold].last;
        }

        private int packedRow(int items) {
            int packed = 0;
            for (int i = 0; i < items; i++) {
                packed |= row[i] << 3 * i;
            }
            return packed;
        }

        /** Makes the row the least one that is greater; false if it is the greatest. */
        private boolean stepRow(int items) {
            int turn = items - 2;
            while (turn >= 0 && row[turn] > row[turn + 1]) {
                turn--;
            }
            if (turn < 0) {
                return false;
            }
            int other = items - 1;
            while (other > turn && row[other] < row[turn]) {
                other--;
            }
            swapInRow(turn, other);
            int behind = items - 1 - turn;
            for (int i = 0; i < behind / 2; i++) {
                swapInRow(turn + 1 + i, items - 1 - i);
            }
            return true;
        }

        private void swapInRow(int a, int b) {
            int kept = row[a];
            row[a] = row[b];
            row[b] = kept;
        }
    }

    /** Which PAPERS stand in a WAY by one land's law. */
    private static final class Standing {
        // What an EVENT does by this law.
        private static final int NOTHING = 0;
        private static final int UNDO = 1;
        private static final int PART = 2;
        private static final int TAKE_AWAY = 3;

        final int[] undoneBy = new int[MOST_PAPERS];
        int counting;
        private final Matter matter;
        private final int[] effects = new int[MOST_EVENTS];
        private boolean isWaking;
        private boolean isVoidForWitnesses;
        private int good;
        private int undoingAll;
        private int came;
        private int stands;
        // PAPERS of which the wife's parts are VOID by a PARTING.
        private int parted;

        Standing(Matter matter) {
            this.matter = matter;
        }

        void setLaw(int land) {
            Estate estate = matter.estate;
            isWaking = estate.ruleOf(land, Estate.WAKE) != 0;
            isVoidForWitnesses = estate.ruleOf(land, Estate.GAIN) == Estate.GAIN_GIFT;
            for (int event = 0; event < matter.eventsTold; event++) {
                effects[event] = effectOf(matter.events[event].kind, land);
            }
            good = 0;
            undoingAll = 0;
            for (int paper = 0; paper < matter.papersTold; paper++) {
                Paper told = matter.papers[paper];
                good |= told.isGoodBy(estate, land, 0) ? 1 << paper : 0;
                undoingAll |= told.undoesAll ? 1 << paper : 0;
            }
        }

        private int effectOf(int kind, int land) {
            Estate estate = matter.estate;
            switch (kind) {
                case Event.WEDDING:
                    return estate.ruleOf(land, Estate.WED) != 0 ? UNDO : NOTHING;
                case Event.PARTING:
                    return estate.ruleOf(land, Estate.PART) != 0 ? PART : NOTHING;
                case Event.TORN_UNMEANT:
                    return estate.ruleOf(land, Estate.TEAR) != 0 ? TAKE_AWAY : NOTHING;
                case Event.LOST:
                    return estate.ruleOf(land, Estate.LOST) != 0 ? TAKE_AWAY : NOTHING;
                default:
                    return TAKE_AWAY;
            }
        }

        /** Has a paper be GOOD or not, and undo all others or not, whatever it says. */
        void setMended(int paper, boolean isGood, boolean isUndoingAll) {
            int bit = 1 << paper;
            good = isGood ? good | bit : good & ~bit;
            undoingAll = isUndoingAll ? undoingAll | bit : undoingAll & ~bit;
        }

        void run(int order, int facts) {
            came = 0;
            stands = 0;
            parted = 0;
            Arrays.fill(undoneBy, NONE);
            int papers = matter.papersTold;
            int items = matter.itemsTold();
            for (int i = 0; i < items; i++) {
                int item = matter.itemAt(order, i);
                if (item < papers) {
                    putPaper(item);
                } else if (matter.events[item - papers].isSo(facts)) {
                    int effect = effects[item - papers];
                    if (effect == UNDO) {
                        undo(stands, item);
                    } else if (effect == PART) {
                        parted |= stands;
                    } else if (effect == TAKE_AWAY) {
                        takeAway(matter.events[item - papers].paper, item);
                    }
                }
            }
            findCounting();
        }

        private void putPaper(int paper) {
            int bit = 1 << paper;
            came |= bit;
            if ((good & bit) == 0) {
                return;
            }
            stands |= bit;
            Paper told = matter.papers[paper];
            undo((undoingAll & bit) != 0 ? ~bit : told.undoes, paper);
            raise(told.wakes & good & came);
        }

        private void undo(int papers, int item) {
            for (int paper = 0; paper < MOST_PAPERS; paper++) {
                if ((papers & stands & 1 << paper) != 0) {
                    undoneBy[paper] = item;
                    stands &= ~(1 << paper);
                }
            }
        }

        private void raise(int papers) {
            for (int paper = 0; paper < MOST_PAPERS; paper++) {
                if ((papers >> paper & 1) != 0) {
                    undoneBy[paper] = NONE;
                    stands |= 1 << paper;
                }
            }
        }

        private void takeAway(int paper, int item) {
            if ((stands >> paper & 1) == 0) {
                return;
            }
            undo(1 << paper, item);
            if (!isWaking) {
                return;
            }
            int woken = 0;
            for (int other = 0; other < MOST_PAPERS; other++) {
                woken |= undoneBy[other] == paper ? 1 << other : 0;
            }
            raise(woken);
        }

        private void findCounting() {
            counting = 0;
            // A PAPER is with one of a lower number, so that one is known first.
            for (int paper = 0; paper < matter.papersTold; paper++) {
                int with = matter.papers[paper].with;
                if ((stands >> paper & 1) != 0 && (with < 0 || (counting >> with & 1) != 0)) {
                    counting |= 1 << paper;
                }
            }
        }

        boolean isCounting(int paper) {
            return (counting >> paper & 1) != 0;
        }

        /** PEOPLE whose parts of a paper are VOID, as bits. */
        int voidOf(int paper) {
            int people = isVoidForWitnesses ? matter.papers[paper].witnesses : 0;
            if ((parted >> paper & 1) != 0 && matter.estate.wife >= 0) {
                people |= 1 << matter.estate.wife;
            }
            return people;
        }
    }

    /** Who gets what in a WAY. */
    private static final class Shares {
        static final int GIVEN = 0;
        static final int AS_REST = 1;
        static final int BY_KIN = 2;
        static final int TO_NOBODY = 3;

        // What each PERSON gets of the THING, or of the money left, that was parted last.
        final int[] parts = new int[MOST_PEOPLE];
        final int[] paidTo = new int[MOST_PEOPLE];
        final int[] sums = new int[MOST_PEOPLE];
        private final Matter matter;
        private final Standing[] standings = new Standing[MOST_LANDS];
        private final int[] laws = new int[MOST_THINGS];
        private final int[] pays = new int[MOST_PAPERS * MOST_GIFTS];
        private final int[] payees = new int[MOST_PAPERS * MOST_GIFTS];
        private int paysFound;
        private int movesLaw;
        // LANDS whose law holds for anything, as bits.
        private int lawsInUse;
        private int order;
        private int facts;
        private int preparedFor = NONE;

        Shares(Matter matter) {
            this.matter = matter;
            for (int land = 0; land < MOST_LANDS; land++) {
                standings[land] = new Standing(matter);
            }
        }

        /** To be called ahead of all others when anything may have been told since. */
        void makeReady() {
            if (preparedFor != matter.changes) {
                prepare();
            }
        }

        /** Runs a WAY that there is by all laws that hold for anything. */
        void takeWay(int way) {
            setWay(way);
            for (int land = 0; land < MOST_LANDS; land++) {
                if ((lawsInUse >> land & 1) != 0) {
                    standings[land].run(order, facts);
                }
            }
        }

        /** Runs a WAY that there is by the law for one thing alone. */
        void takeWayFor(int thing, int way) {
            setWay(way);
            standings[laws[thing]].run(order, facts);
        }

        /** Runs a WAY that there is by the law of one land alone. */
        Standing standingIn(int way, int land) {
            setWay(way);
            standings[land].run(order, facts);
            return standings[land];
        }

        private void setWay(int way) {
            order = way / FACT_ROWS;
            facts = way % FACT_ROWS;
        }

        private void prepare() {
            Estate estate = matter.estate;
            for (int land = 0; land < estate.lands.size; land++) {
                standings[land].setLaw(land);
            }
            movesLaw = estate.lawAndRing(NONE) >> 1;
            lawsInUse = 1 << movesLaw;
            for (int thing = 0; thing < estate.things.size; thing++) {
                laws[thing] = estate.lawAndRing(thing) >> 1;
                lawsInUse |= 1 << laws[thing];
            }
            preparedFor = matter.changes;
        }

        /** Has a paper stand otherwise by the law for a thing, until that is forgotten. */
        void mendFor(int thing, int paper, boolean isGood, boolean isUndoingAll) {
            prepare();
            standings[laws[thing]].setMended(paper, isGood, isUndoingAll);
        }

        void forgetMending() {
            preparedFor = NONE;
        }

        /** Parts a thing and answers how it goes. */
        int partThing(int thing) {
            Arrays.fill(parts, 0);
            int worth = matter.estate.worths[thing];
            int who = givenTo(standings[laws[thing]], thing);
            if (who != NONE) {
                parts[who] = worth;
                return GIVEN;
            }
            return partLeft(laws[thing], worth);
        }

        private int givenTo(Standing standing, int thing) {
            for (int i = matter.itemsTold() - 1; i >= 0; i--) {
                int item = matter.itemAt(order, i);
                if (item < matter.papersTold && standing.isCounting(item)) {
                    Paper paper = matter.papers[item];
                    int voids = standing.voidOf(item);
                    for (int gift = 0; gift < paper.gifts; gift++) {
                        if (paper.giftThing[gift] == thing && isHolding(paper, gift, voids)) {
                            return paper.giftTo[gift];
                        }
                    }
                }
            }
            return NONE;
        }

        private boolean isHolding(Paper paper, int gift, int voids) {
            int shut = voids | matter.estate.dead;
            return (shut >> paper.giftTo[gift] & 1) == 0
                    && paper.isIfSo(gift, matter.estate.dead, facts);
        }

        /** Parts what no GIFT takes, as REST or BY KIN, and answers how it goes. */
        private int partLeft(int land, int amount) {
            Estate estate = matter.estate;
            int heirs = heirsOfRest(standings[land]);
            if (heirs != 0) {
                partEqually(heirs, amount);
                return AS_REST;
            }
            boolean hasWife = estate.wife >= 0 && !estate.isDead(estate.wife);
            if (!hasWife && estate.stems == 0) {
                return TO_NOBODY;
            }
            int hers = 0;
            if (hasWife) {
                hers = estate.stems == 0 ? amount
                        : amount * estate.ruleOf(land, Estate.WIFE) / 100;
                parts[estate.wife] = hers;
            }
            partEqually(estate.stems, amount - hers);
            // Kin come behind whom they are kin of, so one pass hands all the way down.
            for (int person = 0; person < estate.people.size; person++) {
                if (estate.isDead(person) && parts[person] > 0) {
                    int part = parts[person];
                    parts[person] = 0;
                    partEqually(estate.kinStems[person], part);
                }
            }
            return BY_KIN;
        }

        private int heirsOfRest(Standing standing) {
            for (int i = matter.itemsTold() - 1; i >= 0; i--) {
                int item = matter.itemAt(order, i);
                if (item < matter.papersTold && standing.isCounting(item)) {
                    int shut = standing.voidOf(item) | matter.estate.dead;
                    int heirs = matter.papers[item].rest & ~shut;
                    if (heirs != 0) {
                        return heirs;
                    }
                }
            }
            return 0;
        }

        private void partEqually(int heirs, int amount) {
            int many = Integer.bitCount(heirs);
            if (many == 0) {
                return;
            }
            int each = amount / many;
            int over = amount % many;
            for (int person = 0; person < MOST_PEOPLE; person++) {
                if ((heirs >> person & 1) != 0) {
                    parts[person] += over > 0 ? each + 1 : each;
                    over--;
                }
            }
        }

        int gettersOfParts() {
            int getters = 0;
            for (int person = 0; person < MOST_PEOPLE; person++) {
                getters |= parts[person] > 0 ? 1 << person : 0;
            }
            return getters;
        }

        /** Pays what is PAID and parts the money that is left over. */
        void partMoney() {
            Arrays.fill(parts, 0);
            Arrays.fill(paidTo, 0);
            findPays(standings[movesLaw]);
            int there = matter.estate.moneyThereIs();
            int all = 0;
            for (int i = 0; i < paysFound; i++) {
                all += pays[i];
            }
            if (all > there) {
                cutPays(all, there);
            }
            for (int i = 0; i < paysFound; i++) {
                paidTo[payees[i]] += pays[i];
            }
            partLeft(movesLaw, Math.max(0, there - all));
        }

        private void findPays(Standing standing) {
            paysFound = 0;
            int items = matter.itemsTold();
            for (int i = 0; i < items; i++) {
                int item = matter.itemAt(order, i);
                if (item < matter.papersTold && standing.isCounting(item)) {
                    findPaysOf(matter.papers[item], standing.voidOf(item));
                }
            }
        }

        private void findPaysOf(Paper paper, int voids) {
            for (int gift = 0; gift < paper.gifts; gift++) {
                if (paper.giftPay[gift] > 0 && isHolding(paper, gift, voids)
                        && paysFound < pays.length) {
                    pays[paysFound] = paper.giftPay[gift];
                    payees[paysFound] = paper.giftTo[gift];
                    paysFound++;
                }
            }
        }

        private void cutPays(int all, int there) {
            if (all <= 0) {
                return;
            }
            int over = there;
            for (int i = 0; i < paysFound; i++) {
                pays[i] = (int) ((long) pays[i] * there / all);
                over -= pays[i];
            }
            for (int i = 0; i < paysFound && i < over; i++) {
                pays[i]++;
            }
        }

        /** The SUMS of all PEOPLE. */
        void addUp() {
            partMoney();
            for (int person = 0; person < MOST_PEOPLE; person++) {
                sums[person] = paidTo[person] + parts[person];
            }
            for (int thing = 0; thing < matter.estate.things.size; thing++) {
                partThing(thing);
                for (int person = 0; person < MOST_PEOPLE; person++) {
                    sums[person] += parts[person];
                }
            }
        }

        /** SHORT, by the SUMS that were added up last. */
        int shortOfForce() {
            Estate estate = matter.estate;
            int all = estate.moneyThereIs();
            for (int thing = 0; thing < estate.things.size; thing++) {
                all += estate.worths[thing];
            }
            int due = all * estate.ruleOf(movesLaw, Estate.FORCE) / 100;
            for (int person = 0; person < estate.people.size; person++) {
                due -= estate.isOfTheLine(person) ? sums[person] : 0;
            }
            return Math.max(0, due);
        }
    }

    /** All unlike OUTCOMES, and which one each WAY has. */
    private static final class Outcomes {
        private static final int CHAINS = 256;
        private static final int FIRST_ROOM = 32;

        final int[] ofWay = new int[MOST_ORDERS * FACT_ROWS];
        int size;
        private final Matter matter;
        private final Shares shares;
        // Unlike OUTCOMES are few as a rule: their rows grow only when they are not.
        private int room = FIRST_ROOM;
        private int[] rows = new int[FIRST_ROOM * MOST_PEOPLE];
        private int[] nextInChain = new int[FIRST_ROOM];
        private int[] answers = new int[FIRST_ROOM];
        private final int[] chains = new int[CHAINS];
        private int filledFor = NONE;

        Outcomes(Matter matter, Shares shares) {
            this.matter = matter;
            this.shares = shares;
        }

        void bringUpToDate() {
            if (filledFor == matter.changes) {
                return;
            }
            size = 0;
            Arrays.fill(chains, NONE);
            int ways = matter.waysFound();
            if (ways > 0) {
                shares.makeReady();
            }
            int unused = matter.unusedFacts();
            for (int way = 0; way < ways; way++) {
                if ((way & unused) != 0) {
                    ofWay[way] = ofWay[way & ~unused];
                } else {
                    shares.takeWay(way);
                    shares.addUp();
                    ofWay[way] = numberOf(shares.sums);
                }
            }
            filledFor = matter.changes;
        }

        private int numberOf(int[] sums) {
            int chain = 0;
            for (int person = 0; person < MOST_PEOPLE; person++) {
                chain = chain * 31 + sums[person];
            }
            chain = (chain ^ (chain >>> 8) ^ (chain >>> 16)) & (CHAINS - 1);
            int outcome = chains[chain];
            for (int i = 0; i < size && outcome != NONE; i++) {
                if (isRow(outcome, sums)) {
                    return outcome;
                }
                outcome = nextInChain[outcome];
            }
            return addRow(sums, chain);
        }

        private boolean isRow(int outcome, int[] sums) {
            for (int person = 0; person < MOST_PEOPLE; person++) {
                if (rows[outcome * MOST_PEOPLE + person] != sums[person]) {
                    return false;
                }
            }
            return true;
        }

        private int addRow(int[] sums, int chain) {
            if (size >= room) {
                room *= 2;
                rows = Arrays.copyOf(rows, room * MOST_PEOPLE);
                nextInChain = Arrays.copyOf(nextInChain, room);
                answers = new int[room];
            }
            System.arraycopy(sums, 0, rows, size * MOST_PEOPLE, MOST_PEOPLE);
            nextInChain[size] = chains[chain];
            chains[chain] = size;
            size++;
            return size - 1;
        }

        int sumIn(int way, int person) {
            return rows[ofWay[way] * MOST_PEOPLE + person];
        }

        /** SURELY of a set; 0 without WAYS. */
        int leastOf(int set) {
            int least = 0;
            for (int outcome = 0; outcome < size; outcome++) {
                int together = 0;
                for (int person = 0; person < MOST_PEOPLE; person++) {
                    if ((set >> person & 1) != 0) {
                        together += rows[outcome * MOST_PEOPLE + person];
                    }
                }
                least = outcome == 0 ? together : Math.min(least, together);
            }
            return least;
        }

        int greatestOf(int person) {
            int greatest = 0;
            for (int outcome = 0; outcome < size; outcome++) {
                greatest = Math.max(greatest, rows[outcome * MOST_PEOPLE + person]);
            }
            return greatest;
        }

        boolean hangOn(int fact) {
            int ways = matter.waysFound();
            for (int way = 0; way < ways; way++) {
                if (ofWay[way] != ofWay[way ^ 1 << fact]) {
                    return true;
                }
            }
            return false;
        }

        int bestQuestion() {
            int best = NONE;
            int least = size;
            for (int fact = 0; fact < FACTS; fact++) {
                int many = unlikeByFact(fact);
                if (many < least) {
                    least = many;
                    best = fact;
                }
            }
            int items = matter.itemsTold();
            for (int a = 0; a < items; a++) {
                for (int b = a + 1; b < items; b++) {
                    int many = unlikeByOrder(a, b);
                    if (many < least) {
                        least = many;
                        best = 10 + 10 * a + b;
                    }
                }
            }
            return best;
        }

        private int unlikeByFact(int fact) {
            Arrays.fill(answers, 0);
            int ways = matter.waysFound();
            for (int way = 0; way < ways; way++) {
                answers[ofWay[way]] |= (way >> fact & 1) != 0 ? 1 : 2;
            }
            return greaterOfAnswers();
        }

        private int unlikeByOrder(int a, int b) {
            Arrays.fill(answers, 0);
            int ways = matter.waysFound();
            int answer = 0;
            for (int way = 0; way < ways; way++) {
                if (way % FACT_ROWS == 0) {
                    answer = matter.isAhead(way / FACT_ROWS, a, b) ? 1 : 2;
                }
                answers[ofWay[way]] |= answer;
            }
            return greaterOfAnswers();
        }

        private int greaterOfAnswers() {
            int yes = 0;
            int no = 0;
            for (int outcome = 0; outcome < size; outcome++) {
                yes += answers[outcome] & 1;
                no += answers[outcome] >> 1;
            }
            return Math.max(yes, no);
        }
    }

    /** STORIES, and how they fit the WAYS. */
    private static final class Stories {
        // Events are kept by numbers of their own: a PAPER that comes later moves them as ITEMS.
        private static final int EVENT_BASE = 16;

        int told;
        int fewest;
        int surelyFalse;
        int waysWithFewest;
        private final Matter matter;
        private final Outcomes outcomes;
        private final int[] tellers = new int[MOST_STORIES];
        // NONE: the story is of two ITEMS.
        private final int[] factTold = new int[MOST_STORIES];
        private final int[] soTold = new int[MOST_STORIES];
        private final int[] earlier = new int[MOST_STORIES];
        private final int[] later = new int[MOST_STORIES];

        Stories(Matter matter, Outcomes outcomes) {
            this.matter = matter;
            this.outcomes = outcomes;
        }

        int addFact(int person, int fact, int so) {
            if (told >= MOST_STORIES) {
                return FULL;
            }
            tellers[told] = person;
            factTold[told] = fact;
            soTold[told] = so;
            told++;
            return told - 1;
        }

        int addAhead(int person, int a, int b) {
            if (told >= MOST_STORIES) {
                return FULL;
            }
            tellers[told] = person;
            factTold[told] = NONE;
            earlier[told] = lasting(a);
            later[told] = lasting(b);
            told++;
            return told - 1;
        }

        private int lasting(int item) {
            return item < matter.papersTold ? item : EVENT_BASE + item - matter.papersTold;
        }

        private int itemNow(int lasting) {
            return lasting < EVENT_BASE ? lasting : matter.papersTold + lasting - EVENT_BASE;
        }

        private boolean isTrue(int story, int way) {
            if (factTold[story] != NONE) {
                return (way >> factTold[story] & 1) == soTold[story];
            }
            int a = itemNow(earlier[story]);
            int b = itemNow(later[story]);
            return matter.isAhead(way / FACT_ROWS, a, b);
        }

        private int falseIn(int way) {
            int lies = 0;
            for (int story = 0; story < told; story++) {
                lies |= isTrue(story, way) ? 0 : 1 << story;
            }
            return lies;
        }

        void weigh() {
            fewest = MOST_STORIES + 1;
            surelyFalse = 0;
            waysWithFewest = 0;
            int ways = matter.waysFound();
            for (int way = 0; way < ways; way++) {
                int lies = falseIn(way);
                int many = Integer.bitCount(lies);
                if (many < fewest) {
                    fewest = many;
                    surelyFalse = lies;
                    waysWithFewest = 1;
                } else if (many == fewest) {
                    surelyFalse &= lies;
                    waysWithFewest++;
                }
            }
        }

        /** GAIN, by OUTCOMES that were brought up to date. */
        int gainBy(int story) {
            int ifTrue = 0;
            int ifFalse = 0;
            int ways = matter.waysFound();
            for (int way = 0; way < ways; way++) {
                int sum = outcomes.sumIn(way, tellers[story]);
                if (isTrue(story, way)) {
                    ifTrue = Math.max(ifTrue, sum);
                } else {
                    ifFalse = Math.max(ifFalse, sum);
                }
            }
            return ifTrue - ifFalse;
        }
    }

    /** The fewest CHANGES to a PAPER with which a THING goes as was meant. */
    private static final class Mender {
        static final int SIGN = 1;
        static final int BY_HAND = 2;
        static final int NOT_IN_PENCIL = 4;
        static final int ONE_MORE_WITNESS = 8;
        private static final int UNDO_ALL = 16;
        private static final int COME_LAST = 32;
        private static final int KINDS = 6;

        private static final int UNTRIED = 0;
        private static final int ENOUGH = 1;
        private static final int NOT_ENOUGH = 2;

        private final Matter matter;
        private final Shares shares;
        // Sets of CHANGES that come to the same are tried once.
        private final int[] verdicts = new int[8];
        private int paper;
        private int thing;
        private int person;
        private int land;

        Mender(Matter matter, Shares shares) {
            this.matter = matter;
            this.shares = shares;
        }

        int fewestChanges(int paper, int thing, int person) {
            this.paper = paper;
            this.thing = thing;
            this.person = person;
            land = matter.estate.lawAndRing(thing) >> 1;
            Arrays.fill(verdicts, UNTRIED);
            int found = NONE;
            for (int many = 0; many <= KINDS && found == NONE; many++) {
                for (int changes = 0; changes < 1 << KINDS && found == NONE; changes++) {
                    if (Integer.bitCount(changes) == many && isEnough(changes)) {
                        found = changes;
                    }
                }
            }
            shares.forgetMending();
            return found;
        }

        private boolean isEnough(int changes) {
            boolean isGood = matter.papers[paper].isGoodBy(matter.estate, land, changes);
            boolean isUndoingAll = matter.papers[paper].undoesAll || (changes & UNDO_ALL) != 0;
            boolean isLast = (changes & COME_LAST) != 0;
            int which = (isGood ? 1 : 0) + (isUndoingAll ? 2 : 0) + (isLast ? 4 : 0);
            if (verdicts[which] == UNTRIED) {
                shares.mendFor(thing, paper, isGood, isUndoingAll);
                verdicts[which] = goesRightInAll(isLast) ? ENOUGH : NOT_ENOUGH;
            }
            return verdicts[which] == ENOUGH;
        }

        private boolean goesRightInAll(boolean isLast) {
            int worth = matter.estate.worths[thing];
            int lastPlace = matter.itemsTold() - 1;
            int unused = matter.unusedFacts();
            int ways = matter.waysFound();
            boolean isAnyLookedAt = false;
            for (int way = 0; way < ways; way++) {
                boolean isLookedAt = !isLast || matter.itemAt(way / FACT_ROWS, lastPlace) == paper;
                if (!isLookedAt || (way & unused) != 0) {
                    continue;
                }
                shares.takeWayFor(thing, way);
                shares.partThing(thing);
                if (shares.parts[person] != worth) {
                    return false;
                }
                isAnyLookedAt = true;
            }
            return isAnyLookedAt;
        }
    }
}
