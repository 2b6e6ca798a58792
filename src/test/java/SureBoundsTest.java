/** Each sentence on what is sure, STORIES, SETTLEMENTS and mending that names a bound: at it, and on both sides. */
public final class SureBoundsTest {
    private static final int NONE = Due.NONE;
    private static final int RANGE = Due.RANGE;
    private static final int FULL = Due.FULL;
    private static final int STATE = Due.STATE;
    private static final int NO_STORY = -1000000;
    // Numbers that no row has, also where a shift or a sum of theirs would wrap around.
    private static final int[] NEVER = {-3, -32, -256, Integer.MIN_VALUE, Integer.MIN_VALUE + 1, 32, 64, 65536, 1 << 29, 1 << 30,
        Integer.MAX_VALUE - 1, Integer.MAX_VALUE};

    private static WhichWill eight() {
        return Due.desk("land a seen 0;" + Due.clauses(8, "person # child;") + Due.clauses(8, "thing # 8;") + "money 80;");
    }

    /** Eight people and things, and no land. */
    private static WhichWill nowhere() {
        return Due.desk(Due.clauses(8, "person # child;") + Due.clauses(8, "thing # 8;") + "money 80;", "", "");
    }

    private static void sure() {
        Due.sentence("Terms IV", "SURE of a PERSON: the least and the greatest SUM of all WAYS");
        WhichWill desk = Due.desk("land a seen 0; person p friend; person q friend; money 9;",
                "signed; pay 3 to p; rest to q;");
        Due.is("alike", desk.sure(0, false), 3);
        Due.is("alike", desk.sure(0, true), 3);
        desk = Due.desk("land a seen 0 wed; person p friend; person q friend; money 9;", "made 1 2; signed; pay 3 to p;", "made 2 3; signed; pay 1 to p if fact 2; rest to q;");
        Due.is("least", desk.sure(0, false), 3);
        Due.is("greatest", desk.sure(0, true), 4);
        Due.is("least", desk.sure(1, false), 5);
        Due.is("greatest", desk.sure(1, true), 6);
        desk.event(0, 0, 3, 3, 0);
        Due.is("nothing at least", desk.sure(0, false), 0);
        Due.sentence("Promise 25", "NONE: there are no WAYS; RANGE");
        WhichWill most = eight();
        Due.is("the last", most.sure(7, false), 18);
        Due.is("the last", most.sure(7, true), 18);
        for (int person : new int[] {-2, -1, 8, 9}) {
            Due.is("person " + person, most.sure(person, true), RANGE);
            Due.is("person " + person + " without ways", nowhere().sure(person, false), RANGE);
        }
        Due.is("no ways", nowhere().sure(0, false), NONE);
        Due.is("no ways", nowhere().sure(7, true), NONE);
        Due.is("nobody", Due.desk("land a;").sure(0, true), RANGE);
        Due.sentence("Promise 26", "NONE: not alike in all, or there are none; RANGE");
        Due.is("all eight", most.surely(7), 255);
        Due.is("nobody in all", Due.desk("land a; thing t 1;").surely(0), 0);
        for (int fact = 0; fact < 3; fact++) {
            desk = Due.desk("land a seen 0; person p friend; person q child; thing t 1;", "signed; give t to p if fact " + fact + ";");
            Due.is("not alike by fact " + fact, desk.surely(0), NONE);
        }
        desk = Due.desk("land a seen 0; person p friend; person q friend; thing t 1;", "made 1 2; signed; give t to p;", "made 2 3; signed; give t to q;");
        Due.is("not alike in the last order", desk.surely(0), NONE);
        desk = Due.desk("land a seen 0; person p friend; person q friend; thing t 1;", "made 1 2; signed; give t to p;", "made 3 3; signed; give t to q;");
        Due.is("alike", desk.surely(0), 2);
        for (int thing : new int[] {-2, -1, 8, 9}) {
            Due.is("thing " + thing, most.surely(thing), RANGE);
            Due.is("thing " + thing + " without ways", nowhere().surely(thing), RANGE);
        }
        Due.is("no ways", nowhere().surely(7), NONE);
        Due.is("nothing", Due.desk("land a;").surely(0), RANGE);
        for (int number : NEVER) {
            Due.is("person " + number, most.sure(number, true), RANGE);
            Due.is("person " + number, most.sure(number, false), RANGE);
            Due.is("thing " + number, most.surely(number), RANGE);
        }
    }

    private static void hangs() {
        Due.sentence("Terms IV", "HANGS on a FACT: whether in some WAY somebody's SUM is another one");
        for (int fact = 0; fact < 3; fact++) {
            WhichWill desk = Due.desk("land a seen 0; person p friend; money 1;", "signed; pay 1 to p if fact " + fact + ";");
            for (int other = 0; other < 3; other++) {
                Due.is("fact " + other + " by " + fact, desk.hangs(other), fact == other ? 1 : 0);
            }
        }
        // The wedding does nothing but in the last of its two orders.
        WhichWill one = Due.desk("land a seen 0 wed; person p friend; money 1;", "made 5 5; signed; pay 1 to p;");
        one.event(0, 0, 4, 5, 2);
        Due.is("in some", one.hangs(2), 1);
        Due.is("not", one.hangs(1), 0);
        WhichWill never = Due.desk("land a seen 0 wed; person p friend; money 1;", "made 5 5; signed; pay 1 to p;");
        never.event(0, 0, 4, 4, 2);
        Due.is("in none", never.hangs(2), 0);
        Due.sentence("Promise 27", "NONE: there are no WAYS; RANGE");
        for (int fact : new int[] {-2, -1, 3, 4, 7, 8}) {
            Due.is("fact " + fact, one.hangs(fact), RANGE);
            Due.is("fact " + fact + " without ways", nowhere().hangs(fact), RANGE);
        }
        for (int number : NEVER) {
            Due.is("fact " + number, one.hangs(number), RANGE);
        }
        for (int fact = 0; fact < 3; fact++) {
            Due.is("no ways", nowhere().hangs(fact), NONE);
            Due.is("no ways", new WhichWill().hangs(fact), NONE);
        }
    }

    private static void outcomes() {
        Due.sentence("Terms IV", "OUTCOMES: rows of all SUMS");
        Due.is("no ways", new WhichWill().outcomes(), 0);
        Due.is("no ways", nowhere().outcomes(), 0);
        Due.is("nobody", Due.desk("land a; money 5;").outcomes(), 1);
        Due.is("one", eight().outcomes(), 1);
        for (int i = 0; i < 8; i++) {
            WhichWill desk = Due.desk("land a seen 0;" + Due.clauses(8, "person # friend;") + "money 9;", "signed; pay 1 to " + (char) ('a' + i) + " if fact 0;");
            Due.is("two, by person " + i, desk.outcomes(), 2);
        }
        WhichWill desk = Due.desk("land a seen 0; person p friend; money 9;", "signed; pay 1 to p if fact 0; pay 2 to p if fact 1; pay 4 to p if fact 2;");
        Due.is("all eight", desk.outcomes(), 8);
        desk = Due.desk("land a seen 0; person p friend; money 9;", "signed; pay 1 to p if fact 0; pay 1 to p if fact 1; pay 2 to p if fact 2;");
        Due.is("0 to 4", desk.outcomes(), 5);
        // Sums that a short mark of a row could take for alike.
        for (int i = 0; i < 8; i++) {
            for (int pay : new int[] {1, 31, 256, 257, 65536, 65537, 65793}) {
                desk = Due.desk("land a seen 0;" + Due.clauses(8, "person # friend;") + "money 99999;", "signed; pay " + pay + " to " + (char) ('a' + i) + " if fact 2;");
                Due.is("two, by " + pay + " to person " + i, desk.outcomes(), 2);
            }
        }
        desk = Due.desk("land a seen 0; person p friend; person q friend; money 99;", "signed; pay 31 to q if fact 0; pay 1 to p if fact 0 not;");
        Due.is("two that are near", desk.outcomes(), 2);
        manyOutcomes();
    }

    /** Each of the 24 orders of four papers, by each row of facts, has an outcome of its own. */
    private static void manyOutcomes() {
        StringBuilder estate = new StringBuilder("land a seen 0; land b seen 0 house there;" + Due.clauses(4, "person # friend;"));
        for (int pair = 0; pair < 6; pair++) {
            estate.append("thing ").append((char) ('a' + pair)).append(' ').append(1 << pair).append(';');
        }
        String[] papers = {"signed;", "signed;", "signed;", "signed;"};
        int pair = 0;
        for (int i = 0; i < 4; i++) {
            for (int j = i + 1; j < 4; j++) {
                papers[i] += "give " + (char) ('a' + pair) + " to " + (char) ('a' + i) + ";";
                papers[j] += "give " + (char) ('a' + pair) + " to " + (char) ('a' + j) + ";";
                pair++;
            }
        }
        papers[0] += "pay 100 to a if fact 0; pay 200 to a if fact 1; pay 400 to a if fact 2;";
        WhichWill desk = Due.desk(estate + "money 700;", papers);
        Due.is("ways", desk.ways(), 192);
        Due.is("all unlike", desk.outcomes(), 192);
        Due.is("again", desk.outcomes(), 192);
        Due.is("half by a fact", desk.ask(), 0);
        Telling.estate(desk, "land a;");
        Due.is("none of them behind", desk.outcomes(), 1);
    }

    private static void ask() {
        Due.sentence("Terms IV", "ASK: that for which the greater number is least; the first of those; none if it is as many as all");
        Due.is("no ways", new WhichWill().ask(), NONE);
        Due.is("no ways", nowhere().ask(), NONE);
        Due.is("one outcome", eight().ask(), NONE);
        Due.is("nobody, no items", Due.desk("land a;").ask(), NONE);
        for (int fact = 0; fact < 3; fact++) {
            Due.is("fact " + fact, Due.desk("land a seen 0; person p friend; money 9;", "signed; pay 1 to p if fact " + fact + ";").ask(), fact);
        }
        Due.is("the first fact of three", Due.desk("land a seen 0; person p friend; money 9;",
                "signed; pay 1 to p if fact 0; pay 2 to p if fact 1; pay 4 to p if fact 2;").ask(), 0);
        Due.is("the better fact", Due.desk("land a seen 0; person p friend; money 9;",
                "signed; pay 1 to p if fact 0; pay 1 to p if fact 1; pay 2 to p if fact 2;").ask(), 2);
        String folk = "land a seen 0; person p friend; person q friend; thing t 5; money 9;";
        Due.is("a fact ahead of an order as good", Due.desk(folk, "signed; give t to p; pay 1 to p if fact 2;", "signed; give t to q;").ask(), 2);
        Due.is("ITEM 0 ahead of 1", Due.desk(folk, "signed; give t to p;", "signed; give t to q;").ask(), 11);
        Due.is("ITEM 0 ahead of 3", Due.desk(folk, "signed; give t to p;", "made 0 0;", "made 0 0;", "signed; give t to q;").ask(), 13);
        Due.is("ITEM 2 ahead of 3", Due.desk(folk, "", "", "signed; give t to p;", "signed; give t to q;").ask(), 33);
        // The wife is given t, unless the parting comes behind the paper that gives it.
        String parted = "land a seen 0 part; person p wife; person q child; thing t 8;";
        WhichWill last = Due.desk(parted, "", "made 9 9;", "made 9 9;", "made 2 5; signed; give t to p;");
        last.event(1, 0, 3, 4, NONE);
        Due.is("ITEM 3 ahead of 4", last.ask(), 10 + 30 + 4);
        last = Due.desk(parted, "made 9 9;", "made 9 9;", "made 2 5; signed; give t to p;");
        last.event(2, 2, 1, 1, NONE);
        last.event(0, 0, 1, 1, NONE);
        last.event(1, 0, 3, 4, NONE);
        Due.is("ITEM 2 ahead of 5", last.ask(), 10 + 20 + 5);
        // Paper 0 is awake again at the parting, or only behind it.
        last = Due.desk("land a seen 0 wake part; person p wife; person q friend; person r child; thing t 8;", "made 0 0; signed; give t to p;",
                "made 1 1; signed; undo; give t to q;", "made 9 9;");
        last.event(0, 0, 9, 9, 0);
        last.event(2, 1, 5, 7, NONE);
        last.event(1, 0, 6, 6, NONE);
        Due.is("ITEM 4 ahead of 5", last.ask(), 10 + 40 + 5);
        // Two events that do the same, each by the same fact.
        last = Due.desk("land a seen 0 tear lost; person p friend; person q child; thing t 8;", "", "", "", "made 0 0; signed; give t to p;");
        last.event(3, 3, 5, 6, 0);
        last.event(4, 3, 5, 6, 0);
        Due.is("a fact, not the two events", last.ask(), 0);
    }

    private static void says() {
        Due.sentence("Terms IV", "STORIES, at most 8, numbered from 0");
        WhichWill desk = Due.desk("land a;" + Due.clauses(8, "person # child;"), "", "");
        for (int i = 0; i < 8; i++) {
            Due.is("story " + i, i % 2 == 0 ? desk.says(7, 2, 1) : desk.tells(7, 0, 1), i);
            Due.is("stories", desk.count(1), i + 1);
        }
        Due.is("a ninth", desk.says(0, 0, 0), FULL);
        Due.is("a ninth", desk.tells(0, 0, 1), FULL);
        Due.is("a ninth that can't be", desk.says(8, 0, 0), RANGE);
        Due.is("a ninth that can't be", desk.tells(0, 1, 1), RANGE);
        Due.is("eight still", desk.count(1), 8);
        Due.is("the eighth", desk.gain(7), 0);
        Due.is("no ninth", desk.gain(8), NO_STORY);
        Due.is("fewest of eight", desk.stories(0), 0);
        Due.is("estate", Telling.estate(desk, "land a; person p child;"), 2);
        Due.is("room again", desk.says(0, 0, 1), 0);
        Due.sentence("Promise 30", "a FACT is so (1) or not (0): RANGE");
        desk = Due.desk("land a;" + Due.clauses(8, "person # child;"), "", "");
        int[][] never = {{-1, 0, 0}, {8, 0, 0}, {0, -1, 0}, {0, 3, 0}, {0, 0, -1}, {0, 0, 2}, {8, 3, 2}};
        for (int[] row : never) {
            Due.is("says " + row[0] + " " + row[1] + " " + row[2], desk.says(row[0], row[1], row[2]), RANGE);
        }
        for (int number : NEVER) {
            Due.is("person " + number, desk.says(number, 0, 0), RANGE);
            Due.is("fact " + number, desk.says(0, number, 0), RANGE);
            Due.is("so " + number, desk.says(0, 0, number), RANGE);
        }
        Due.is("none told", desk.count(1), 0);
        Due.is("the least of all", desk.says(0, 0, 0), 0);
        Due.is("the greatest of all", desk.says(7, 2, 1), 1);
        Due.is("nobody", Due.desk("land a;").says(0, 0, 0), RANGE);
        Due.is("nobody", new WhichWill().says(0, 0, 0), RANGE);
        Due.is("without ways", nowhere().says(7, 2, 1), 0);
        tells();
    }

    private static void tells() {
        Due.sentence("Promise 31", "that ITEM a came ahead of b: RANGE: no such, or alike");
        WhichWill desk = Due.desk("land a;" + Due.clauses(8, "person # child;"), "", "");
        desk.event(0, 0, 0, 9999, NONE);
        int[][] never = {{-1, 0, 1}, {8, 0, 1}, {0, -1, 1}, {0, 3, 1}, {0, 1, -1}, {0, 1, 3}, {0, 0, 0}, {0, 2, 2}, {0, 3, 3}, {0, -1, -1}};
        for (int[] row : never) {
            Due.is("tells " + row[0] + " " + row[1] + " " + row[2], desk.tells(row[0], row[1], row[2]), RANGE);
        }
        for (int number : NEVER) {
            Due.is("person " + number, desk.tells(number, 0, 1), RANGE);
            Due.is("item " + number, desk.tells(0, number, 1), RANGE);
            Due.is("item " + number, desk.tells(0, 0, number), RANGE);
        }
        Due.is("none told", desk.count(1), 0);
        Due.is("the least of all", desk.tells(0, 0, 1), 0);
        Due.is("the greatest of all", desk.tells(7, 2, 1), 1);
        Due.is("no items", Due.desk("land a; person p child;").tells(0, 0, 1), RANGE);
        Due.is("one item", Due.desk("land a; person p child;", "").tells(0, 0, 1), RANGE);
        Due.is("without ways", nowhere().tells(7, 1, 0), 0);
        Due.sentence("Terms IV", "the PAPER or EVENT that it is then, whatever comes besides");
        desk = Due.desk("land a; person p child;");
        for (int i = 0; i < 3; i++) {
            desk.event(0, 0, 5 + i, 5 + i, NONE);
        }
        Due.is("the first event ahead of the last", desk.tells(0, 0, 2), 0);
        Due.is("the last ahead of the first", desk.tells(0, 2, 0), 1);
        for (int papers = 0; papers < 3; papers++) {
            Due.is("paper", Telling.paper(desk, "made 9 9;"), papers);
            Due.is("one is false", desk.stories(0), 1);
            Due.is("the second", desk.stories(1), 2);
        }
        Due.is("in all ways", desk.stories(2), 8 * 6);
    }

    private static void stories() {
        Due.sentence("Promise 32", "NONE: there are no WAYS, or another what");
        WhichWill desk = Due.desk("land a; person p child;", "", "");
        Due.is("no stories", desk.stories(0), 0);
        Due.is("no stories", desk.stories(1), 0);
        Due.is("no stories", desk.stories(2), 16);
        for (int what : new int[] {-1, 3, 4}) {
            Due.is("stories " + what, desk.stories(what), NONE);
        }
        for (int number : NEVER) {
            Due.is("stories " + number, desk.stories(number), NONE);
        }
        WhichWill none = nowhere();
        none.says(0, 0, 1);
        for (int what = -1; what <= 3; what++) {
            Due.is("no ways", none.stories(what), NONE);
            Due.is("no ways", new WhichWill().stories(what), NONE);
        }
        Due.sentence("Terms IV", "FEWEST that are false: of all WAYS. FALSE surely: those that are so in all WAYS with as few");
        desk = Due.desk("land a; person p child;", "made 1 1;", "made 2 2;");
        for (int i = 0; i < 8; i++) {
            desk.tells(0, 1, 0);
        }
        Due.is("all eight", desk.stories(0), 8);
        Due.is("all eight surely", desk.stories(1), 255);
        Due.is("in all ways", desk.stories(2), 8);
        desk = Due.desk("land a; person p child;");
        desk.says(0, 0, 1);
        desk.says(0, 0, 0);
        Due.is("one or the other", desk.stories(0), 1);
        Due.is("neither surely", desk.stories(1), 0);
        Due.is("in all ways", desk.stories(2), 8);
        desk.says(0, 2, 1);
        Due.is("one still", desk.stories(0), 1);
        Due.is("in half of all", desk.stories(2), 4);
        desk.says(0, 0, 0);
        Due.is("the one", desk.stories(1), 1);
        Due.is("in a quarter", desk.stories(2), 2);
        Due.sentence("Terms IV", "GAIN by a STORY (0 for none such)");
        desk = Due.desk("land a seen 0; person p friend; money 99999;" + Due.clauses(8, "thing # 9999;"), "made 1 1; signed; rest to p;", "made 2 2;");
        desk.tells(0, 0, 1);
        desk.tells(0, 1, 0);
        Due.is("never false: all that can be", desk.gain(0), 179991);
        Due.is("never true: less all that can be", desk.gain(1), -179991);
        desk = Due.desk("land a seen 0; person p friend; money 9;", "signed; pay 1 to p if fact 0;");
        desk.says(0, 0, 1);
        desk.says(0, 0, 0);
        desk.says(0, 1, 0);
        Due.is("one", desk.gain(0), 1);
        Due.is("less one, and no NONE", desk.gain(1), -1);
        Due.is("neither", desk.gain(2), 0);
        WhichWill first = Due.desk("land a seen 0; person p friend; money 9;", "signed; pay 1 to p if fact 0 not; pay 1 to p if fact 1 not; pay 1 to p if fact 2 not;");
        first.says(0, 0, 0);
        Due.is("by the first way alone", first.gain(0), 3 - 2);
        WhichWill last = Due.desk("land a seen 0; person p friend; money 9;", "signed; pay 1 to p if fact 0; pay 1 to p if fact 1; pay 1 to p if fact 2;");
        last.says(0, 0, 1);
        Due.is("by the last way alone", last.gain(0), 3 - 2);
        Due.sentence("Promise 33", "NONE: there are no WAYS; RANGE (-1000000)");
        for (int story : new int[] {-2, -1, 3, 4, 8}) {
            Due.is("gain " + story, desk.gain(story), NO_STORY);
        }
        for (int number : NEVER) {
            Due.is("gain " + number, desk.gain(number), NO_STORY);
        }
        Due.is("no ways", none.gain(0), NONE);
        Due.is("no story, no ways", none.gain(1), NO_STORY);
        Due.is("no story at all", new WhichWill().gain(0), NO_STORY);
    }

    private static void settle() {
        Due.sentence("Terms IV", "A set LEAVES it, if in each WAY their SUMS together are more than what they are offered together");
        WhichWill desk = Due.desk("land a; person p child; person q child; money 10;");
        Due.is("as much", Telling.settle(desk, "5 5"), 0);
        Due.is("one less", Telling.settle(desk, "4 6"), 1);
        Due.is("one less", Telling.settle(desk, "6 4"), 2);
        Due.is("one less together", Telling.settle(desk, "4 4"), 1);
        Due.is("one more", Telling.settle(desk, "6 6"), 0);
        Due.is("nothing", Telling.settle(desk, "0 0"), 1);
        desk = Due.desk("land a seen 0; person p friend; person q friend; money 10;", "signed; pay 4 to p if fact 0; pay 6 to p if fact 0 not; rest to q;");
        Due.is("4 and 4 surely, 10 together", Telling.settle(desk, "4 6"), 0);
        Due.is("together", Telling.settle(desk, "4 5"), 3);
        Due.is("together", Telling.settle(desk, "5 4"), 3);
        Due.is("p alone", Telling.settle(desk, "3 99999"), 1);
        Due.is("q alone", Telling.settle(desk, "99999 3"), 2);
        Due.sentence("Promise 34", "the least set, as bits");
        WhichWill most = eight();
        Due.is("the last alone", Telling.settle(most, "18 18 18 18 18 18 18 17"), 128);
        Due.is("the last but one and the last", Telling.settle(most, "18 18 18 18 18 18 17 17"), 64);
        Due.is("none", Telling.settle(most, "18 18 18 18 18 18 18 18"), 0);
        WhichWill all = Due.desk("land a seen 0;" + Due.clauses(8, "person # friend;") + "money 7;",
                "signed;" + "pay 7 to a if fact 0; pay 7 to b if fact 1; pay 7 to c if fact 2;" + "rest to d and e and f and g;",
                "made 9999 9999; signed; pay 7 to h if fact 0 not;");
        Due.is("all that there is", Telling.settle(all, "0 0 0 0 0 0 0 7"), 0);
        Due.is("one less than a, b, c and h share in each way", Telling.settle(all, "0 0 0 0 0 0 0 6"), 135);
        Due.sentence("Promise 34", "{N}, one N for each PERSON; NONE: it is no such row; STATE: there are no WAYS");
        desk = Due.desk("land a; person p child; person q child; money 10;");
        String[] rows = {"", "5", "5 5 5", "5 5;", ";5 5", "5 p", "p 5", "5 000005", "5 100000", "5 -5", "5, 5", "5 5 \u0000", "5\t5", "5 5 p"};
        for (String row : rows) {
            Due.is("settle [" + row + "]", Telling.settle(desk, row), NONE);
        }
        for (String row : new String[] {"5 5", " 5\n5 ", "00005 00005", "99999 99999", "5 5" + " ".repeat(897)}) {
            Due.is("settle [" + row + "]", Telling.settle(desk, row), 0);
        }
        Due.is("nobody", Telling.settle(Due.desk("land a;"), ""), 0);
        Due.is("nobody", Telling.settle(Due.desk("land a;"), " \n"), 0);
        Due.is("nobody, and a number", Telling.settle(Due.desk("land a;"), "0"), NONE);
        Due.is("too few for eight", Telling.settle(most, "1 1 1 1 1 1 1"), NONE);
        Due.is("too many for eight", Telling.settle(most, "1 1 1 1 1 1 1 1 1"), NONE);
        Due.is("no ways", Telling.settle(nowhere(), "1 1 1 1 1 1 1 1"), STATE);
        Due.is("no ways, nobody", new WhichWill().settle(), STATE);
        Due.is("no ways, no row", Telling.settle(nowhere(), "1"), NONE);
        floors();
    }

    private static void floors() {
        Due.sentence("Promise 35", "SURELY of a set of PEOPLE (bits); NONE: there are no WAYS; RANGE");
        WhichWill most = eight();
        Due.is("nobody", most.floor(0), 0);
        Due.is("the last", most.floor(128), 18);
        Due.is("all", most.floor(255), 144);
        for (int set : new int[] {-1, -255, 256, 257, 511, 512, 1 << 30, Integer.MIN_VALUE, Integer.MIN_VALUE + 1, Integer.MAX_VALUE}) {
            Due.is("floor " + set, most.floor(set), RANGE);
            Due.is("floor " + set + " without ways", nowhere().floor(set), RANGE);
        }
        Due.is("no ways", nowhere().floor(255), NONE);
        Due.is("no ways, nobody", nowhere().floor(0), NONE);
        WhichWill one = Due.desk("land a; person p child; money 3;");
        Due.is("the one", one.floor(1), 3);
        Due.is("no second", one.floor(2), RANGE);
        Due.is("no second", one.floor(3), RANGE);
        Due.is("nobody at all", Due.desk("land a;").floor(0), 0);
        Due.is("no first", Due.desk("land a;").floor(1), RANGE);
        WhichWill either = Due.desk("land a seen 0; person p friend; person q friend; money 10;", "signed; pay 4 to p if fact 2; rest to q;");
        Due.is("p", either.floor(1), 0);
        Due.is("q", either.floor(2), 6);
        Due.is("both", either.floor(3), 10);
    }

    private static int mended(String rules, String... papers) {
        return Due.desk("land a " + rules + "; person p friend; person q friend; person c child; thing t 9;", papers).mend(0, 0, 0);
    }

    private static void mend() {
        Due.sentence("Terms IV", "CHANGES, as bits: 1, 2, 4, 8, 16, 32; the fewest CHANGES, then the least bits");
        Due.is("none", mended("seen 0", "signed; give t to p;"), 0);
        Due.is("signed", mended("seen 0", "give t to p;"), 1);
        Due.is("by hand", mended("seen 3 hand", "signed; give t to p;"), 2);
        Due.is("not in pencil", mended("seen 0", "signed; pencil; give t to p;"), 4);
        Due.is("one more witness", mended("seen 1", "signed; give t to p;"), 8);
        Due.is("one more witness of three", mended("seen 3", "signed; by p; by q; give t to p;"), 8);
        Due.is("one more is not two", mended("seen 3", "signed; by p; give t to p;"), NONE);
        Due.is("one more besides those that gain", mended("seen 2 gain void", "signed; by p; by q; give t to p;"), 8);
        Due.is("what is VOID stays so", mended("seen 0 gain gift", "signed; by p; give t to p;"), NONE);
        Due.is("undo", mended("seen 0", "made 5 5; signed; rest to p;", "made 1 1; signed; give t to q;"), 16);
        Due.is("last", mended("seen 0", "made 1 5; signed; give t to p;", "made 1 5; signed; give t to q;"), 32);
        Due.is("last, on the one day that both have", mended("seen 0", "made 1 5; signed; give t to p;", "made 5 9; signed; give t to q;"), 32);
        Due.is("never last", mended("seen 0", "made 1 4; signed; give t to p;", "made 5 9; signed; give t to q;"), NONE);
        Due.is("undo and last", mended("seen 0", "signed; rest to p;", "signed; give t to q;"), 48);
        Due.is("signed and undo", mended("seen 0", "made 5 5; rest to p;", "made 1 1; signed; give t to q;"), 1 + 16);
        Due.is("five with a witness", mended("seen 1", "pencil; rest to p;", "signed; by c; give t to q;"), 1 + 4 + 8 + 16 + 32);
        Due.is("five by hand, the lesser", mended("seen 1 hand", "pencil; rest to p;", "signed; by c; give t to q;"), 1 + 2 + 4 + 16 + 32);
        Due.is("not five but four", mended("seen 0", "pencil; rest to p;", "signed; give t to q;"), 1 + 4 + 16 + 32);
        Due.sentence("Terms IV", "so that a THING goes to a PERSON (whole) in all WAYS");
        Due.is("half", Due.desk("land a; person p child; person q child; thing t 2;", "").mend(0, 0, 0), NONE);
        Due.is("one whole for the first", Due.desk("land a; person p child; person q child; thing t 1;", "").mend(0, 0, 0), 0);
        Due.is("nothing for the second", Due.desk("land a; person p child; person q child; thing t 1;", "").mend(0, 0, 1), NONE);
        Due.is("not by one fact", mended("seen 0", "signed; give t to p if fact 2;"), NONE);
        Due.sentence("Promise 36", "NONE: none are enough (also without WAYS); RANGE: no such PAPER, THING, PERSON");
        WhichWill most = Due.desk("land a seen 0;" + Due.clauses(8, "person # friend;") + Due.clauses(8, "thing # 8;"), "", "", "", "give h to h;");
        Due.is("the last of all", most.mend(3, 7, 7), 1);
        Due.is("none are enough", most.mend(3, 7, 6), NONE);
        int[][] never = {{-1, 0, 0}, {4, 0, 0}, {0, -1, 0}, {0, 8, 0}, {0, 0, -1}, {0, 0, 8}, {4, 8, 8}, {-1, -1, -1}};
        for (int[] row : never) {
            String call = "mend " + row[0] + " " + row[1] + " " + row[2];
            Due.is(call, most.mend(row[0], row[1], row[2]), RANGE);
            Due.is(call + " without ways", nowhere().mend(row[0], row[1], row[2]), RANGE);
        }
        for (int number : NEVER) {
            Due.is("paper " + number, most.mend(number, 0, 0), RANGE);
            Due.is("thing " + number, most.mend(0, number, 0), RANGE);
            Due.is("person " + number, most.mend(0, 0, number), RANGE);
        }
        Due.is("without ways", nowhere().mend(1, 7, 7), NONE);
        Due.is("no third paper", nowhere().mend(2, 0, 0), RANGE);
        Due.is("no paper", Due.desk("land a; person p child; thing t 1;").mend(0, 0, 0), RANGE);
        Due.is("nothing", Due.desk("land a; person p child;", "").mend(0, 0, 0), RANGE);
        Due.is("nobody", Due.desk("land a; thing t 1;", "").mend(0, 0, 0), RANGE);
    }

    private static void count() {
        Due.sentence("Promise 37", "0: clauses, 1: STORIES, 2: ITEMS, 3: bytes of THE TAPE. NONE for others");
        WhichWill desk = Due.desk("land a; person p child;", "", "", "");
        for (int i = 0; i < 3; i++) {
            desk.event(0, 0, 0, 9999, NONE);
        }
        for (int i = 0; i < 8; i++) {
            desk.says(0, 0, 1);
        }
        Telling.type(desk, " ".repeat(900));
        int[] want = {2, 8, 6, 900};
        for (int what = 0; what < 4; what++) {
            Due.is("count " + what, desk.count(what), want[what]);
            Due.is("count " + what + " of a new one", new WhichWill().count(what), 0);
        }
        for (int what : new int[] {-2, -1, 4, 5}) {
            Due.is("count " + what, desk.count(what), NONE);
        }
        for (int number : NEVER) {
            Due.is("count " + number, desk.count(number), NONE);
        }
        Due.sentence("Promise 1", "An ESTATE of which nothing is told; no ITEMS");
        WhichWill bare = new WhichWill();
        Due.is("orders", bare.orders(), 1);
        Due.is("ways", bare.ways(), 0);
        Due.is("papers", bare.told(3), 0);
        Due.is("first paper", bare.paper(), 0);
        Due.is("another object has none", new WhichWill().told(3), 0);
    }

    public static void main(String[] args) {
        sure();
        hangs();
        outcomes();
        ask();
        says();
        stories();
        settle();
        mend();
        count();
        Due.end();
    }
}
