/** Each sentence on ITEMS, ORDERS, laws and who gets what that names a bound: at it, and on both sides. */
public final class WayBoundsTest {
    private static final int NONE = Due.NONE;
    private static final int RANGE = Due.RANGE;
    private static final int FULL = Due.FULL;
    // Numbers that no row has, also where a shift or a sum of theirs would wrap around.
    private static final int[] NEVER = {-3, -32, -256, Integer.MIN_VALUE, Integer.MIN_VALUE + 1, 32, 64, 256, 65536, 1 << 29, 1 << 30,
        Integer.MAX_VALUE - 1, Integer.MAX_VALUE};

    private static WhichWill items(int papers, int events) {
        WhichWill desk = Due.desk("land a; person p friend; thing t 1;");
        for (int i = 0; i < papers; i++) {
            Due.is("paper " + i, Telling.paper(desk, ""), i);
        }
        for (int i = 0; i < events; i++) {
            Due.is("event " + i, desk.event(0, 0, 0, 9999, NONE), i);
        }
        return desk;
    }

    private static void rooms() {
        Due.sentence("Terms II", "PAPERS, at most 4, EVENTS, at most 3; 6 together at most");
        for (int papers = 0; papers <= 4; papers++) {
            for (int events = 0; events <= 3 && papers + events <= 6; events++) {
                boolean isFull = papers + events == 6;
                WhichWill desk = items(papers, events);
                Due.is("a paper behind " + papers + " and " + events, Telling.paper(desk, ""), papers == 4 || isFull ? FULL : papers);
                desk = items(papers, events);
                Due.is("an event behind " + papers + " and " + events, desk.event(1, 0, 0, 0, NONE),
                        events == 3 || isFull ? FULL : events);
                Due.is("events", desk.told(4), events == 3 || isFull ? events : events + 1);
                Due.is("papers", desk.told(3), papers);
            }
        }
        Due.sentence("Promise 7", "FULL: 3 were, or there are 6 ITEMS");
        WhichWill desk = items(0, 3);
        Due.is("a fourth", desk.event(0, 0, 0, 0, NONE), FULL);
        Due.is("ways by three", desk.orders(), 6);
        Due.is("a fourth that can't be", desk.event(5, 0, 0, 0, NONE), RANGE);
        desk = items(4, 2);
        Due.is("a seventh", desk.event(4, 3, 0, 0, NONE), FULL);
        Due.is("a seventh that can't be", desk.event(4, 4, 0, 0, NONE), RANGE);
        Telling.estate(desk, "land a;");
        Due.is("room again behind estate", desk.event(0, 0, 0, 0, NONE), 0);
    }

    private static void refusedEvent(String why, int kind, int paper, int first, int last, int fact) {
        WhichWill desk = items(2, 1);
        Due.is(why, desk.event(kind, paper, first, last, fact), RANGE);
        Due.is("none told", desk.told(4), 1);
        Due.is("items", desk.count(2), 3);
        Due.is("orders", desk.orders(), 6);
    }

    private static void events() {
        Due.sentence("Terms II", "0 a WEDDING .. 4 a PAPER was LOST");
        for (int kind = 0; kind <= 4; kind++) {
            Due.is("kind " + kind, items(2, 1).event(kind, 1, 0, 0, NONE), 1);
        }
        for (int kind : new int[] {-1, -2, 5, 6}) {
            refusedEvent("kind " + kind, kind, 0, 0, 0, NONE);
        }
        Due.sentence("Promise 7", "no such PAPER (for WEDDING, PARTING it doesn't matter)");
        for (int kind = 0; kind <= 4; kind++) {
            for (int paper : new int[] {-1, -2, 2, 3, 4}) {
                if (kind < 2) {
                    Due.is("kind " + kind + " of " + paper, items(2, 1).event(kind, paper, 0, 0, NONE), 1);
                } else {
                    refusedEvent("kind " + kind + " of " + paper, kind, paper, 0, 0, NONE);
                }
            }
        }
        Due.is("of the first", items(2, 1).event(2, 0, 0, 0, NONE), 1);
        Due.is("of the last", items(2, 1).event(2, 1, 0, 0, NONE), 1);
        Due.is("of none", items(0, 1).event(2, 0, 0, 0, NONE), RANGE);
        Due.is("of any", items(0, 1).event(0, Integer.MIN_VALUE, 0, 0, NONE), 1);
        Due.is("of any", items(0, 1).event(1, Integer.MAX_VALUE, 0, 0, NONE), 1);
        Due.sentence("Terms II", "from a first to a last day (0 .. 9999)");
        int[][] days = {{0, 0}, {0, 9999}, {9999, 9999}, {4, 5}, {5, 5}};
        for (int[] day : days) {
            Due.is("days " + day[0] + " " + day[1], items(2, 1).event(0, 0, day[0], day[1], NONE), 1);
        }
        int[][] never = {{-1, 0}, {-1, -1}, {0, -1}, {0, 10000}, {9999, 10000}, {10000, 10000}, {6, 5}, {9999, 0},
            {Integer.MIN_VALUE, Integer.MAX_VALUE}, {0, Integer.MAX_VALUE}, {Integer.MIN_VALUE, 0}, {Integer.MAX_VALUE, Integer.MIN_VALUE}};
        for (int[] day : never) {
            refusedEvent("days " + day[0] + " " + day[1], 0, 0, day[0], day[1], NONE);
        }
        Due.sentence("Terms II", "always, or only if a FACT (0 .. 2) is so");
        for (int fact = -1; fact <= 2; fact++) {
            Due.is("fact " + fact, items(2, 1).event(0, 0, 0, 0, fact), 1);
            WhichWill desk = Due.desk("land a seen 0 wed;", "made 0 0; signed;");
            desk.event(0, 0, 1, 1, fact);
            for (int facts = 0; facts < 8; facts++) {
                boolean isSo = fact < 0 || (facts >> fact & 1) != 0;
                Due.is("fact " + fact + " of " + facts, desk.counts(facts, 0), isSo ? 0 : 1);
            }
        }
        refusedEvent("fact 3", 0, 0, 0, 0, 3);
        refusedEvent("fact -2", 0, 0, 0, 0, -2);
        for (int number : NEVER) {
            refusedEvent("kind", number, 0, 0, 0, NONE);
            refusedEvent("paper", 3, number, 0, 0, NONE);
            refusedEvent("fact", 0, 0, 0, 0, number);
        }
    }

    private static void told() {
        Due.sentence("Promise 8", "7: court, 8: home, 9: born (NONE without LANDS), 10: the wife (NONE)");
        WhichWill bare = Due.desk("person p child; thing t 1;");
        WhichWill one = Due.desk("land a; person p wife;");
        for (int what = 7; what <= 9; what++) {
            Due.is("told " + what, bare.told(what), NONE);
            Due.is("told " + what, one.told(what), 0);
        }
        Due.is("no wife", bare.told(10), NONE);
        Due.is("a wife", one.told(10), 0);
        Due.sentence("Promise 8", "20 + t: worth of THING t, 30 + t: the LAND in which it stands, 40 + p. NONE for others");
        WhichWill most = Due.desk(Due.clauses(4, "land #;") + Due.clauses(8, "person # child dead;") + Due.clauses(7, "thing # 5 in d;")
                + "thing h 9999;");
        Due.is("first worth", most.told(20), 5);
        Due.is("last worth", most.told(27), 9999);
        Due.is("first place", most.told(30), 3);
        Due.is("last but one place", most.told(36), 3);
        Due.is("last place", most.told(37), NONE);
        Due.is("first dead", most.told(40), 1);
        Due.is("last dead", most.told(47), 1);
        for (int what : new int[] {-1, 11, 19, 28, 29, 38, 39, 48, 49, 50}) {
            Due.is("told " + what, most.told(what), NONE);
        }
        for (int what : NEVER) {
            if (what != 32) {
                Due.is("told " + what, most.told(what), NONE);
            }
        }
        for (int what : new int[] {21, 27, 31, 37, 41, 47}) {
            Due.is("told " + what + " of one", bare.told(what), NONE);
        }
        Due.is("no worth", one.told(20), NONE);
        Due.is("no place", one.told(30), NONE);
        Due.is("alive", one.told(40), 0);
        Due.is("nobody", Due.desk("land a; thing t 1;").told(40), NONE);
        Due.sentence("Promise 9", "RULE of a LAND, what 0 .. 12; RANGE");
        for (int land = 0; land < 4; land++) {
            Due.is("first rule", most.rule(land, 0), 2);
            Due.is("last rule", most.rule(land, 12), 0);
            Due.is("below", most.rule(land, -1), RANGE);
            Due.is("above", most.rule(land, 13), RANGE);
        }
        Due.is("no land", most.rule(-1, 0), RANGE);
        Due.is("no land", most.rule(4, 0), RANGE);
        Due.is("no land", one.rule(1, 0), RANGE);
        Due.is("no land", bare.rule(0, 0), RANGE);
        for (int number : NEVER) {
            Due.is("land " + number, most.rule(number, 0), RANGE);
            Due.is("rule " + number, most.rule(0, number), RANGE);
        }
        Due.sentence("Promise 10", "Of a PAPER, what 0 .. 11; RANGE");
        WhichWill papers = items(4, 0);
        for (int paper = 0; paper < 4; paper++) {
            Due.is("first what", papers.look(paper, 0), 0);
            Due.is("last what", papers.look(paper, 11), NONE);
            Due.is("below", papers.look(paper, -1), RANGE);
            Due.is("above", papers.look(paper, 12), RANGE);
        }
        Due.is("no paper", papers.look(-1, 0), RANGE);
        Due.is("no paper", papers.look(4, 0), RANGE);
        Due.is("no paper", items(1, 2).look(1, 0), RANGE);
        Due.is("no paper", items(0, 1).look(0, 0), RANGE);
        for (int number : NEVER) {
            Due.is("paper " + number, papers.look(number, 0), RANGE);
            Due.is("what " + number, papers.look(0, number), RANGE);
        }
    }

    private static void orders() {
        Due.sentence("Terms II", "days can be told for them, none ahead of the day of the one before it in the row");
        Due.is("of no item", items(0, 0).orders(), 1);
        Due.is("of one", items(1, 0).orders(), 1);
        Due.is("of two", items(1, 1).orders(), 2);
        Due.is("of six", items(3, 3).orders(), 720);
        Due.is("of six", items(4, 2).orders(), 720);
        Due.is("the days touch", Due.desk("land a;", "made 0 5;", "made 5 9;").orders(), 2);
        Due.is("the days do not", Due.desk("land a;", "made 0 4;", "made 5 9;").orders(), 1);
        Due.is("one day", Due.desk("land a;", "made 5 5;", "made 5 5;").orders(), 2);
        Due.is("the last day", Due.desk("land a;", "made 9999 9999;", "").orders(), 2);
        Due.is("the first day", Due.desk("land a;", "made 0 0;", "").orders(), 2);
        Due.is("one day for all six", sixOnOneDay().orders(), 720);
        // 0 is of day 2 at least, 2 of day 1 at most, and 1 may touch either.
        Due.is("all three", Due.desk("land a;", "made 2 4;", "made 1 3;", "made 0 1;").orders(), 3);
        WhichWill events = Due.desk("land a;", "made 3 3;");
        events.event(0, 0, 3, 3, NONE);
        events.event(0, 0, 4, 4, NONE);
        events.event(0, 0, 2, 2, NONE);
        Due.is("events on both sides", events.orders(), 2);
        Due.sentence("Terms II", "ORDERS are numbered by rows, the least first");
        WhichWill six = items(3, 3);
        for (int i = 0; i < 6; i++) {
            Due.is("first order", six.item(0, i), i);
            Due.is("last order", six.item(719, i), 5 - i);
        }
        Due.is("second order", six.item(1, 4), 5);
        Due.is("second order", six.item(1, 5), 4);
        Due.sentence("Promise 12", "NONE: none such; RANGE: no such ORDER");
        Due.is("below", six.item(0, -1), NONE);
        Due.is("above", six.item(719, 6), NONE);
        Due.is("above of none", items(0, 0).item(0, 0), NONE);
        Due.is("the one of one", items(1, 0).item(0, 0), 0);
        Due.is("above of one", items(1, 0).item(0, 1), NONE);
        Due.is("no order", six.item(-1, 0), RANGE);
        Due.is("no order", six.item(720, 0), RANGE);
        Due.is("no order", items(0, 0).item(1, 0), RANGE);
        Due.is("no order, and none such", six.item(720, 6), RANGE);
        for (int number : NEVER) {
            Due.is("item " + number, six.item(0, number), NONE);
            if (number < 0 || number >= 720) {
                Due.is("order " + number, six.item(number, 0), RANGE);
            }
        }
        ahead();
    }

    private static WhichWill sixOnOneDay() {
        WhichWill desk = Due.desk("land a;", "made 7 7;", "made 7 7;", "made 7 7;", "made 7 7;");
        desk.event(0, 0, 7, 7, NONE);
        desk.event(1, 0, 7, 7, NONE);
        return desk;
    }

    private static void ahead() {
        Due.sentence("Promise 13", "1 in all ORDERS, 0 in none, 2 in some; RANGE: no such, or alike");
        WhichWill desk = Due.desk("land a;", "made 0 5;", "made 6 9;", "made 5 6;");
        Due.is("in all", desk.ahead(0, 1), 1);
        Due.is("in none", desk.ahead(1, 0), 0);
        Due.is("in some", desk.ahead(0, 2), 2);
        Due.is("in some", desk.ahead(2, 1), 2);
        for (int a = -1; a <= 3; a++) {
            Due.is("below", desk.ahead(a, -1), RANGE);
            Due.is("below", desk.ahead(-1, a), RANGE);
            Due.is("above", desk.ahead(a, 3), RANGE);
            Due.is("above", desk.ahead(3, a), RANGE);
            Due.is("alike", desk.ahead(a, a), RANGE);
        }
        for (int number : NEVER) {
            Due.is("ahead " + number, desk.ahead(number, 0), RANGE);
            Due.is("ahead of " + number, desk.ahead(0, number), RANGE);
        }
        Due.is("no item", items(0, 0).ahead(0, 1), RANGE);
        Due.is("one item", items(0, 1).ahead(0, 1), RANGE);
        Due.is("the last two of six", items(3, 3).ahead(4, 5), 2);
    }

    private static void laws() {
        Due.sentence("Terms II", "the first LAND that is come to again is a RING: its law holds");
        String seats = "court a; home b; born c; thing h 1 in d; thing m 1;";
        int[][] want = {{0, 0}, {1, 0}, {2, 0}, {3, 0}, {1, 1}, {2, 1}};
        String[][] names = {{"own", "own", "own", "own"}, {"home", "own", "home", "born"}, {"born", "born", "own", "own"},
            {"home", "born", "there", "own"}, {"home", "born", "there", "home"}, {"home", "born", "there", "born"}};
        for (int i = 0; i < want.length; i++) {
            WhichWill desk = Due.desk("land a house " + names[i][0] + ";land b house " + names[i][1] + ";land c house " + names[i][2]
                    + ";land d house " + names[i][3] + ";" + seats);
            Due.is("law " + i, desk.law(0), want[i][0]);
            Due.is("ring " + i, desk.ring(0), want[i][1]);
            Due.is("what moves is another's " + i, desk.law(1), 0);
        }
        WhichWill self = Due.desk("land a house there move home; thing t 1 in a;");
        Due.is("it names itself", self.law(0), 0);
        Due.is("no ring", self.ring(0), 0);
        Due.is("it names itself, as home", self.law(NONE), 0);
        Due.is("no ring", self.ring(NONE), 0);
        WhichWill two = Due.desk("land a move home; land b move born; home b;");
        Due.is("a ring of two comes to the court again", two.law(NONE), 0);
        Due.is("ring", two.ring(NONE), 1);
        Due.sentence("Promise 14, 15", "for NONE: for what moves; NONE: there are no LANDS; RANGE");
        for (int thing = NONE; thing <= 0; thing++) {
            Due.is("no lands", Due.desk("thing t 1;").law(thing), NONE);
            Due.is("no lands", Due.desk("thing t 1;").ring(thing), NONE);
        }
        Due.is("no lands, nothing", new WhichWill().law(NONE), NONE);
        Due.is("no lands, nothing", new WhichWill().ring(NONE), NONE);
        Due.is("no thing", new WhichWill().ring(0), RANGE);
        WhichWill eight = Due.desk("land a;" + Due.clauses(8, "thing # 1;"));
        Due.is("the last", eight.law(7), 0);
        Due.is("the last", eight.ring(7), 0);
        for (int thing : new int[] {-2, 8, 9}) {
            Due.is("no thing " + thing, eight.law(thing), RANGE);
            Due.is("no thing " + thing, eight.ring(thing), RANGE);
        }
        for (int number : NEVER) {
            Due.is("law " + number, eight.law(number), RANGE);
            Due.is("ring " + number, eight.ring(number), RANGE);
        }
    }

    private static int good(String rules, String paper) {
        return Due.desk("land a " + rules + "; person p friend; person q friend; person r friend; thing t 1;", paper).good(0, 0);
    }

    private static void goods() {
        Due.sentence("Terms II", "it has as many WITNESSES as seen says (or it is by hand, by a law with hand)");
        String[] seen = {"signed;", "signed; by p;", "signed; by p; by q;", "signed; by p; by q; by r;"};
        for (int many = 0; many <= 3; many++) {
            for (int asked = 0; asked <= 3; asked++) {
                Due.is(many + " of " + asked, good("seen " + asked, seen[many]), many >= asked ? 1 : 0);
                Due.is(many + " of " + asked + ", by hand", good("hand seen " + asked, "hand;" + seen[many]), 1);
                Due.is(many + " of " + asked + ", not signed", good("seen " + asked, seen[many].substring(7)), 0);
            }
            Due.is(many + " where nothing is told", good("", seen[many]), many >= 2 ? 1 : 0);
        }
        Due.is("by hand, by a law without", good("seen 1", "signed; hand;"), 0);
        Due.is("not by hand, by a law with", good("seen 1 hand", "signed;"), 0);
        Due.sentence("Terms II", "in pencil only by a law with pencil");
        Due.is("pencil, without", good("seen 0", "signed; pencil;"), 0);
        Due.is("pencil, with", good("seen 0 pencil", "signed; pencil;"), 1);
        Due.is("no pencil, with", good("seen 0 pencil", "signed;"), 1);
        Due.is("pencil and hand, by a law with hand", good("hand", "signed; pencil; hand;"), 0);
        Due.sentence("Terms II", "WITNESSES to whom it gives, pays or leaves anything don't count");
        Due.is("none gains", good("gain void seen 2", "signed; by p; by q; rest to r;"), 1);
        Due.is("one is given", good("gain void seen 2", "signed; by p; by q; give t to p if p dead;"), 0);
        Due.is("one is paid", good("gain void seen 2", "signed; by p; by q; pay 1 to q if fact 0;"), 0);
        Due.is("one is left", good("gain void seen 2", "signed; by p; by q; rest to r and q;"), 0);
        Due.is("one of three gains", good("gain void seen 2", "signed; by p; by q; by r; rest to q;"), 1);
        Due.is("all gain, none is asked for", good("gain void seen 0", "signed; by p; rest to p;"), 1);
        Due.is("one gains, by a law with gift", good("gain gift seen 2", "signed; by p; by q; rest to q;"), 1);
        Due.is("one gains, by a law without", good("seen 2", "signed; by p; by q; rest to q;"), 1);
        Due.sentence("Promise 16", "RANGE");
        WhichWill desk = Due.desk(Due.clauses(4, "land # seen 0;"), "signed;", "signed;");
        Due.is("the last of both", desk.good(1, 3), 1);
        int[][] never = {{-1, 0}, {2, 0}, {0, -1}, {0, 4}, {2, 4}, {-1, -1}};
        for (int[] pair : never) {
            Due.is("good " + pair[0] + " " + pair[1], desk.good(pair[0], pair[1]), RANGE);
        }
        Due.is("no papers", Due.desk("land a;").good(0, 0), RANGE);
        Due.is("no lands", Due.desk("", "").good(0, 0), RANGE);
        for (int number : NEVER) {
            Due.is("paper " + number, desk.good(number, 0), RANGE);
            Due.is("land " + number, desk.good(0, number), RANGE);
        }
    }

    private static void standing() {
        Due.sentence("Terms II", "those told behind again STAND again, if they are GOOD and came ahead of it");
        Due.is("ahead, a day", Due.desk("land a seen 0 wed;", "made 1 1; signed;", "made 2 2; signed; undo; again 0;").counts(0, 0), 3);
        WhichWill same = Due.desk("land a seen 0;", "made 1 1; signed; ", "made 1 1; signed; undo; again 0;");
        Due.is("the same day, ahead", same.counts(0, 0), 3);
        Due.is("the same day, behind", same.counts(8, 0), 3);
        Due.is("not GOOD", Due.desk("land a seen 0;", "made 1 1;", "made 2 2; signed; again 0;").counts(0, 0), 2);
        WhichWill torn = Due.desk("land a seen 0;", "made 1 1; signed;", "made 3 3; signed; again 0;");
        torn.event(2, 0, 2, 2, NONE);
        Due.is("torn, and again", torn.counts(0, 0), 3);
        torn.event(2, 0, 4, 4, NONE);
        Due.is("torn behind that", torn.counts(0, 0), 2);
        Due.is("by the last", torn.undone(0, 0, 0), 3);
        Due.sentence("Terms II", "it undoes all others that STAND (undo), or those told, if they STAND");
        Due.is("others alone", Due.desk("land a seen 0;", "made 1 1; signed;", "made 2 2; signed;", "made 3 3; signed; undo;").counts(0, 0), 4);
        Due.is("the one told", Due.desk("land a seen 0;", "made 1 1; signed;", "made 2 2; signed;", "made 3 3; signed; undo paper 1;").counts(0, 0), 5);
        WhichWill none = Due.desk("land a seen 0;", "made 3 3; signed;", "made 2 2; signed; undo; undo paper 0;");
        Due.is("what comes behind stands", none.counts(0, 0), 3);
        Due.is("what is not GOOD undoes nothing", Due.desk("land a seen 0;", "made 1 1; signed;", "made 2 2; undo;").counts(0, 0), 1);
        Due.is("never stood", none.undone(0, 0, 0), NONE);
        Due.sentence("Terms II", "if the PAPER STANDS, it is UNDONE by that, and by a law with wake those STAND again that are UNDONE by that PAPER");
        String[] chain = {"made 1 1; signed;", "made 2 2; signed; undo paper 0;", "made 3 3; signed; undo paper 1;"};
        WhichWill wake = Due.desk("land a seen 0 wake tear lost;", chain);
        for (int kind = 2; kind <= 4; kind++) {
            Due.is("torn when it does not stand", wake.event(kind, 1, 4, 4, NONE), kind - 2);
            Due.is("wakes none", wake.counts(0, 0), 4);
            Due.is("undone as it was", wake.undone(0, 0, 0), 1);
            Due.is("undone as it was", wake.undone(1, 0, 0), 2);
        }
        wake = Due.desk("land a seen 0 wake;", chain);
        Due.is("the one that stands", wake.event(2, 2, 4, 4, NONE), 0);
        Due.is("wakes what it undid alone", wake.counts(0, 0), 2);
        Due.is("the one that is awake", wake.event(2, 1, 5, 5, NONE), 1);
        Due.is("wakes what that undid", wake.counts(0, 0), 1);
        Due.is("ahead of all", wake.event(2, 0, 0, 0, NONE), 2);
        Due.is("does nothing", wake.counts(0, 0), 1);
        Due.sentence("Terms II", "a PAPER COUNTS, if it STANDS, and, if it is with another one, that COUNTS, too");
        Due.is("all three", Due.desk("land a seen 0;", "signed;", "signed; with 0;", "signed; with 1;").counts(0, 0), 7);
        Due.is("the first does not", Due.desk("land a seen 0;", "", "signed; with 0;", "signed; with 1;", "signed;").counts(0, 0), 8);
        Due.is("the last does not", Due.desk("land a seen 0;", "signed;", "signed; with 0;", "with 1;").counts(0, 0), 3);
        Due.is("with one that comes behind", Due.desk("land a seen 0;", "made 5 5; signed;", "made 1 1; signed; with 0;").counts(0, 0), 3);
        Due.sentence("Promise 17, 18", "as bits; RANGE");
        WhichWill desk = Due.desk(Due.clauses(4, "land # seen 0;"), "signed;", "signed;");
        Due.is("last way, last land", desk.counts(15, 3), 3);
        Due.is("last paper, way, land", desk.undone(1, 15, 3), NONE);
        int[][] never = {{-1, 0}, {16, 0}, {0, -1}, {0, 4}, {16, 4}};
        for (int[] pair : never) {
            Due.is("counts " + pair[0] + " " + pair[1], desk.counts(pair[0], pair[1]), RANGE);
            Due.is("undone " + pair[0] + " " + pair[1], desk.undone(0, pair[0], pair[1]), RANGE);
        }
        Due.is("no paper", desk.undone(-1, 0, 0), RANGE);
        Due.is("no paper", desk.undone(2, 0, 0), RANGE);
        for (int number : NEVER) {
            Due.is("way " + number, desk.counts(number, 0), RANGE);
            Due.is("land " + number, desk.counts(0, number), RANGE);
            Due.is("paper " + number, desk.undone(number, 0, 0), RANGE);
            Due.is("way " + number, desk.undone(0, number, 0), RANGE);
            Due.is("land " + number, desk.undone(0, 0, number), RANGE);
        }
        Due.is("no papers", Due.desk("land a;").counts(7, 0), 0);
        Due.is("no lands, no ways", Due.desk("", "").counts(0, 0), RANGE);
    }

    private static void ways() {
        Due.sentence("Terms II", "number 8 times the ORDER's, and the bits. (Without LANDS there are no WAYS.)");
        Due.is("no lands", new WhichWill().ways(), 0);
        Due.is("no lands, two orders", Due.desk("", "", "").ways(), 0);
        Due.is("no items", items(0, 0).ways(), 8);
        Due.is("six items", items(3, 3).ways(), 5760);
        WhichWill six = items(3, 3);
        Due.is("the last way", six.counts(5759, 0), 0);
        Due.is("one beyond", six.counts(5760, 0), RANGE);
        Due.is("one below", six.counts(-1, 0), RANGE);
        WhichWill desk = Due.desk("land a seen 0; person p friend; person q friend; money 7;", "signed; undo; rest to p;", "signed; undo; rest to q;");
        for (int way = 0; way < 16; way++) {
            Due.is("who in way " + way, desk.sum(way < 8 ? 1 : 0, way), 7);
        }
        Due.sentence("Promise 20 to 24", "RANGE");
        WhichWill most = Due.desk("land a;" + Due.clauses(8, "person # child;") + Due.clauses(8, "thing # 8;"));
        Due.is("last thing, last way", most.goes(7, 7), 255);
        Due.is("last thing, last way", most.how(7, 7), 2);
        Due.is("last person, last way", most.paid(7, 7), 0);
        Due.is("last person, last way", most.sum(7, 7), 8);
        Due.is("last way", most.lack(7), 0);
        int[][] never = {{-1, 0}, {8, 0}, {0, -1}, {0, 8}, {8, 8}, {-1, -1}};
        for (int[] pair : never) {
            refused(most, pair[0], pair[1]);
        }
        for (int number : NEVER) {
            refused(most, number, 0);
            refused(most, 0, number);
            Due.is("way " + number, most.lack(number), RANGE);
        }
        Due.is("way below", most.lack(-1), RANGE);
        Due.is("way above", most.lack(8), RANGE);
        Due.is("no ways", new WhichWill().lack(0), RANGE);
        refused(Due.desk(Due.clauses(8, "person # child;") + Due.clauses(8, "thing # 8;")), 0, 0);
        refused(Due.desk("land a;"), 0, 0);
    }

    private static void refused(WhichWill desk, int which, int way) {
        String call = which + " in way " + way;
        Due.is("goes " + call, desk.goes(which, way), RANGE);
        Due.is("how " + call, desk.how(which, way), RANGE);
        Due.is("paid " + call, desk.paid(which, way), RANGE);
        Due.is("sum " + call, desk.sum(which, way), RANGE);
    }

    private static void parts() {
        Due.sentence("Terms III", "wife in a hundred (cut) to the wife, if she isn't dead and there are STEMS, all without STEMS");
        // {worth, wife in a hundred, hers}
        int[][] hers = {{1, 0, 0}, {1, 99, 0}, {1, 100, 1}, {99, 1, 0}, {100, 1, 1}, {101, 1, 1}, {199, 1, 1}, {9999, 33, 3299}, {9999, 100, 9999}};
        for (int[] row : hers) {
            WhichWill desk = Due.desk("land a wife " + row[1] + "; person w wife; person c child; thing t " + row[0] + ";");
            Due.is("hers of " + row[0] + " by " + row[1], desk.sum(0, 0), row[2]);
            Due.is("the other part", desk.sum(1, 0), row[0] - row[2]);
            Due.is("bits", desk.goes(0, 0), (row[2] > 0 ? 1 : 0) + (row[2] < row[0] ? 2 : 0));
            Due.is("by kin", desk.how(0, 0), 2);
            desk = Due.desk("land a wife " + row[1] + "; person w wife; person c child dead; thing t " + row[0] + ";");
            Due.is("all of " + row[0], desk.sum(0, 0), row[0]);
            desk = Due.desk("land a wife " + row[1] + "; person w wife dead; person c child; thing t " + row[0] + ";");
            Due.is("none of " + row[0], desk.sum(0, 0), 0);
            Due.is("all to the stem", desk.sum(1, 0), row[0]);
        }
        Due.is("great money", Due.desk("land a wife 99; person w wife; person c child; money 99999;").sum(0, 0), 98999);
        Due.sentence("Terms III", "STEMS: children who aren't dead, or dead ones with STEMS of their own");
        String line = "land a; person a child dead;" + "person b kin a dead;person c kin b dead;person d kin c dead;person e kin d dead;"
                + "person f kin e dead;person g kin f dead;person h kin g";
        Due.is("the eighth of a line", Due.desk(line + "; thing t 9;").goes(0, 0), 128);
        Due.is("none of a line", Due.desk(line + " dead; thing t 9;").goes(0, 0), 0);
        Due.is("to nobody", Due.desk(line + " dead; thing t 9;").how(0, 0), 3);
        Due.is("kin of one who lives", Due.desk("land a; person a child; person b kin a; thing t 9;").goes(0, 0), 1);
        Due.is("kin of a friend", Due.desk("land a; person a friend dead; person b kin a; thing t 9;").goes(0, 0), 0);
        Due.is("no people", Due.desk("land a; thing t 9;").how(0, 0), 3);
        Due.sentence("Terms III", "each gets the worth over how many there are (cut), what is over goes by ones to the first of them");
        for (int worth : new int[] {1, 2, 3, 4, 5, 7, 8, 9, 9999}) {
            WhichWill desk = Due.desk("land a seen 0;" + Due.clauses(4, "person # child;") + "thing t " + worth + ";");
            WhichWill rest = Due.desk("land a seen 0;" + Due.clauses(5, "person # friend;") + "thing t " + worth + ";",
                    "signed; rest to e and d and b and a;");
            for (int i = 0; i < 4; i++) {
                int part = worth / 4 + (i < worth % 4 ? 1 : 0);
                Due.is("stem " + i + " of " + worth, desk.sum(i, 0), part);
                Due.is("rest " + i + " of " + worth, rest.sum(i < 2 ? i : i + 1, 0), part);
                Due.is("bit " + i + " of " + worth, desk.goes(0, 0) >> i & 1, part > 0 ? 1 : 0);
            }
        }
        Due.is("one of eight", Due.desk("land a;" + Due.clauses(8, "person # child;") + "thing t 1;").goes(0, 0), 1);
        Due.is("seven of eight", Due.desk("land a;" + Due.clauses(8, "person # child;") + "thing t 7;").goes(0, 0), 127);
        Due.is("what is over goes on likewise", Due.desk("land a; person a child; person b child dead; person c kin b; person d kin b; thing t 5;").sum(2, 0), 1);
        Due.sentence("Terms III", "the last PAPER that COUNTS and has one who isn't dead and whose part isn't VOID");
        String folk = "land a seen 0 gain gift; person a child; person b friend; person c friend dead; thing t 9;";
        Due.is("one of two", Due.desk(folk, "signed; rest to b and c;").goes(0, 0), 2);
        Due.is("none of one", Due.desk(folk, "signed; rest to c;").how(0, 0), 2);
        Due.is("the one ahead", Due.desk(folk, "made 1 1; signed; rest to b;", "made 2 2; signed; rest to c;").goes(0, 0), 2);
        Due.is("VOID", Due.desk(folk, "signed; by b; rest to b and a;").goes(0, 0), 1);
        Due.is("all VOID", Due.desk(folk, "signed; by b; rest to b;").how(0, 0), 2);
    }

    private static void money() {
        Due.sentence("Terms III", "MONEY: less what is owed (0 at least)");
        int[][] left = {{10, 0, 10}, {10, 9, 1}, {10, 10, 0}, {10, 11, 0}, {0, 1, 0}, {0, 99999, 0}, {99999, 0, 99999}, {99999, 99998, 1}, {99999, 99999, 0}};
        for (int[] row : left) {
            WhichWill desk = Due.desk("land a force 90; person c child; money " + row[0] + "; owed " + row[1] + ";");
            Due.is(row[0] + " less " + row[1], desk.sum(0, 0), row[2]);
            Due.is("not short", desk.lack(0), 0);
        }
        Due.sentence("Terms III", "if they are more than there is, each is cut .. (cut), what is over by ones to the first");
        // {there, pays.., paid..}
        int[][] cut = {{11, 5, 5, 5, 5}, {10, 5, 5, 5, 5}, {9, 5, 5, 5, 4}, {1, 5, 5, 1, 0}, {0, 5, 5, 0, 0}, {10, 1, 99999, 1, 9}, {10, 99999, 1, 10, 0},
            {99999, 99999, 1, 99999, 0}, {99998, 99999, 99999, 49999, 49999}, {99999, 99999, 99999, 50000, 49999}};
        for (int[] row : cut) {
            WhichWill desk = Due.desk("land a seen 0; person p friend; person q friend; person r friend; money " + row[0] + ";",
                    "signed; pay " + row[1] + " to p; pay " + row[2] + " to q; rest to r;");
            String call = " of " + row[1] + " and " + row[2] + " by " + row[0];
            Due.is("first" + call, desk.paid(0, 0), row[3]);
            Due.is("second" + call, desk.paid(1, 0), row[4]);
            Due.is("left" + call, desk.sum(2, 0), row[0] - row[3] - row[4]);
        }
        for (int there = 0; there <= 2; there++) {
            for (int pay = 1; pay <= 3; pay++) {
                WhichWill one = Due.desk("land a seen 0; person p friend; money " + there + ";", "signed; pay " + pay + " to p;");
                Due.is("one of " + pay + " by " + there, one.paid(0, 0), Math.min(pay, there));
            }
        }
        WhichWill none = Due.desk("land a seen 0; person p friend; money 5;", "signed;");
        Due.is("no pays", none.paid(0, 0), 0);
        // 32 pays of 99999 by 99999: 3124 each and 31 over, so the last of all goes without.
        String eight = "signed;" + "pay 99999 to p;".repeat(7);
        WhichWill most = Due.desk("land a seen 0;" + Due.clauses(4, "person # friend;") + "person p friend; money 99999;", eight + "pay 99999 to a;",
                eight + "pay 99999 to b;", eight + "pay 99999 to c;", eight + "pay 99999 to d;");
        Due.is("the last of all", most.paid(3, 0), 3124);
        Due.is("the last but eight", most.paid(2, 0), 3125);
        Due.is("the first eight's last", most.paid(0, 0), 3125);
        Due.is("twenty-eight", most.paid(4, 0), 28 * 3125);
        Due.is("the last of all in the last order", most.paid(0, 8 * 23), 3124);
        Due.is("the first there", most.paid(3, 8 * 23), 3125);
        Due.sentence("Terms III", "SHORT: by how much the SUMS of all children and kin are less than force in a hundred (cut); 0 at least");
        for (int paid = 1; paid <= 20; paid++) {
            String pay = "signed; rest to f; pay " + paid + " to c;";
            Due.is("10 less " + paid, Due.desk("land a seen 0 force 50; person c child; person f friend; money 20;", pay).lack(0), Math.max(0, 10 - paid));
            Due.is("10, cut, less " + paid, Due.desk("land a seen 0 force 50; person c child; person f friend; money 21;", pay).lack(0), Math.max(0, 10 - paid));
        }
        Due.is("nothing there", Due.desk("land a force 90; person f friend;").lack(0), 0);
        Due.is("force 0", Due.desk("land a force 0; person f friend; money 99999;").lack(0), 0);
        Due.is("force 1 of 99", Due.desk("land a force 1; person f friend; money 99;").lack(0), 0);
        Due.is("force 1 of 100", Due.desk("land a force 1; person f friend; money 100;").lack(0), 1);
        Due.is("the most there is", Due.desk("land a force 90;" + Due.clauses(8, "thing # 9999;") + "money 99999;").lack(0), 161991);
        Due.is("what is owed is not there", Due.desk("land a force 90; thing t 10; money 5; owed 99999;").lack(0), 9);
        Due.sentence("Terms III", "SUM of a PERSON: the worth of all THINGS, or parts, and money that they get");
        WhichWill all = Due.desk("land a; person c child;" + Due.clauses(8, "thing # 9999;") + "money 99999;");
        Due.is("all that can be", all.sum(0, 7), 179991);
        Due.is("surely", all.sure(0, false), 179991);
        Due.is("floor", all.floor(1), 179991);
    }

    public static void main(String[] args) {
        rooms();
        events();
        told();
        orders();
        laws();
        goods();
        standing();
        ways();
        parts();
        money();
        Due.end();
    }
}
