/** For each promise of the document: ordinary inputs, the edges that it names, wrong inputs. */
public final class PromiseTest {
    private static final int NONE = -1;
    private static final int RANGE = -2;
    private static final int FULL = -3;
    private static final int STATE = -4;
    private static int wrong = 0;
    private static int promise = 0;

    private static void due(String call, long got, long want) {
        if (got != want) {
            wrong++;
            System.out.println("promise " + promise + ": " + call + " answered " + got + ", due is " + want);
        }
    }

    private static void type(WhichWill x, String s) {
        Telling.type(x, s);
    }

    private static int estate(WhichWill x, String s) {
        return Telling.estate(x, s);
    }

    private static int paper(WhichWill x, String s) {
        return Telling.paper(x, s);
    }

    private static int settle(WhichWill x, String s) {
        return Telling.settle(x, s);
    }

    /** An object with an ESTATE and PAPERS, all without a FAULT. */
    private static WhichWill desk(String estate, String... papers) {
        WhichWill x = new WhichWill();
        int clauses = estate(x, estate);
        if (clauses < 0) {
            due("estate [" + estate + "]", clauses, 0);
        }
        for (int i = 0; i < papers.length; i++) {
            due("paper [" + papers[i] + "]", paper(x, papers[i]), i);
        }
        return x;
    }

    private static void badEstate(String text, int kind, int place) {
        WhichWill x = new WhichWill();
        due("estate [" + text + "]", estate(x, text), NONE);
        due("kind of [" + text + "]", x.fault(0), kind);
        due("place of [" + text + "]", x.fault(1), place);
    }

    private static final String FOLK = "land a; person p friend; person q child; person r child dead;"
            + "person s kin r; person w wife; thing t 9; thing u 8; thing v 7;";

    private static void badPaper(String text, int kind, int place) {
        WhichWill x = desk(FOLK, "signed;", "");
        due("paper [" + text + "]", paper(x, text), NONE);
        due("kind of [" + text + "]", x.fault(0), kind);
        due("place of [" + text + "]", x.fault(1), place);
        due("papers behind [" + text + "]", x.told(3), 2);
    }

    private static void newObject() {
        promise = 1;
        WhichWill x = new WhichWill();
        for (int what = 0; what < 7; what++) {
            due("told " + what, x.told(what), 0);
        }
        for (int what = 7; what < 60; what++) {
            due("told " + what, x.told(what), NONE);
        }
        for (int what = 0; what < 4; what++) {
            due("count " + what, x.count(what), 0);
        }
        due("orders", x.orders(), 1);
        due("ways", x.ways(), 0);
        due("fault", x.fault(0), 0);
        due("NONE", WhichWill.NONE, NONE);
        due("RANGE", WhichWill.RANGE, RANGE);
        due("FULL", WhichWill.FULL, FULL);
        due("STATE", WhichWill.STATE, STATE);
    }

    private static void feedAndEnd() {
        promise = 2;
        WhichWill x = new WhichWill();
        for (int i = 1; i <= 45; i++) {
            due("feed", x.feed(0x20202020, 0x0a0a0a0a, 0x20202020, 0x20202020, 0x20202020), 20 * i);
        }
        due("feed beyond 900", x.feed(0, 0, 0, 0, 0), FULL);
        due("count behind FULL", x.count(3), 900);
        due("900 blanks are an estate", x.estate(), 0);
        due("highest first", x.feed(0x6f776564, 0x20343b20, 0x20202020, 0x20202020, 0x20202020), 20);
        due("owed 4;", x.estate(), 1);
        due("owed", x.told(6), 4);
        promise = 3;
        due("end below 0", x.end(-1), NONE);
        due("end of nothing", x.end(0), 0);
        due("end beyond", x.end(1), NONE);
        x.feed(0x6f776564, 0x20353b99, 0, 0, 0);
        due("end beyond", x.end(21), NONE);
        due("end", x.end(7), 7);
        due("end again", x.end(7), 7);
        due("end beyond what is left", x.end(8), NONE);
        due("feed behind the end", x.feed(0x6d6f6e65, 0x79203920, 0x3b202020, 0x20202020, 0x20202020), 27);
        due("both clauses", x.estate(), 2);
        due("owed", x.told(6), 5);
        due("money", x.told(5), 9);
        x.feed(0, 0, 0, 0, 0);
        for (int i = 0; i < 44; i++) {
            x.feed(0, 0, 0, 0, 0);
        }
        due("end 881", x.end(881), 881);
        due("feed to 901", x.feed(0, 0, 0, 0, 0), FULL);
        due("end 880", x.end(880), 880);
        due("feed to 900", x.feed(0, 0, 0, 0, 0), 900);
    }

    private static void estates() {
        promise = 4;
        WhichWill x = desk("land a seen 0; person p child; thing t 5;", "signed;");
        x.event(0, 0, 0, 1, NONE);
        x.says(0, 0, 1);
        due("faulty estate", estate(x, "land"), NONE);
        due("tape", x.count(3), 0);
        due("clauses stay", x.count(0), 3);
        due("items stay", x.count(2), 2);
        due("stories stay", x.count(1), 1);
        due("estate", estate(x, "land b; land c;"), 2);
        due("no items", x.count(2), 0);
        due("no stories", x.count(1), 0);
        due("no people", x.told(1), 0);
        due("no papers", x.told(3), 0);
        due("no events", x.told(4), 0);
        due("orders", x.orders(), 1);
        due("empty estate", estate(x, ""), 0);
        due("no lands", x.told(0), 0);
        due("blanks matter little", estate(x, "\n land a seen0hand;money7 ;\n"), 2);
        due("names that are words", estate(x, "land land land;"), NONE);
        due("names that are words", estate(x, "land land; land seen seen 3; home land; person wife wife;"
                + "person dead kin wife dead; thing in 3 in land; thing land 1;"), 7);
        due("kinds have names of their own", estate(x, "land a; person a wife; thing a 1 in a;"), 3);
        StringBuilder b = new StringBuilder("land abcdefgh;land b;land c;land d;");
        for (int i = 0; i < 8; i++) {
            b.append("person p").append((char) ('a' + i)).append(" friend;thing t").append((char) ('a' + i)).append(" 9999;");
        }
        due("letters from a to z", estate(x, "land azbz; land az; court azbz;"), 3);
        due("all there is room for", estate(x, b.toString()), 20);
        due("people", x.told(1), 8);
    }

    private static void papers() {
        promise = 5;
        WhichWill x = desk(FOLK, "", "", "", "");
        due("faulty first", estate(x, "x"), NONE);
        due("a fifth", paper(x, "signed;"), FULL);
        due("tape", x.count(3), 0);
        due("fault stays", x.fault(0), 1);
        due("a fifth with a FAULT", paper(x, "y"), FULL);
        due("fault stays", x.fault(1), 0);
        x = desk(FOLK, "", "");
        due("event", x.event(0, 0, 0, 0, NONE), 0);
        due("event", x.event(1, 0, 0, 0, NONE), 1);
        due("event", x.event(2, 1, 0, 0, NONE), 2);
        due("third paper", paper(x, "made 1 1;"), 2);
        due("six items", paper(x, ""), FULL);
        due("papers", x.told(3), 3);
        due("faulty paper", paper(desk(FOLK), "signed"), NONE);
        x = desk("land a seen 0 wed;", "made 0 0; signed;");
        x.event(0, 0, 2, 2, NONE);
        due("undone by the event", x.undone(0, 0, 0), 1);
        due("a paper more", paper(x, "made 1 1; signed;"), 1);
        due("the event is item 2", x.undone(0, 0, 0), 2);
        due("and so for the other", x.undone(1, 0, 0), 2);
    }

    private static void faultsOfEstates() {
        promise = 6;
        WhichWill x = new WhichWill();
        due("ahead of any", x.fault(0), 0);
        due("ahead of any", x.fault(1), NONE);
        due("another what", x.fault(2), NONE);
        due("another what", x.fault(-1), NONE);
        estate(x, "x");
        due("kind", x.fault(0), 1);
        estate(x, "");
        due("none then", x.fault(0), 0);
        due("none then", x.fault(1), NONE);
        badEstate("land a", 1, 6);
        badEstate("land a  ", 1, 8);
        badEstate(";", 1, 0);
        badEstate("land abcdefghi;", 1, 5);
        badEstate("money 000001;", 1, 6);
        badEstate("money 1.", 1, 7);
        badEstate("Money 1;", 1, 0);
        badEstate("money \u0000;", 1, 6);
        badEstate("money 1\t;", 1, 7);
        badEstate("land 5;", 1, 5);
        badEstate("land a;;", 1, 7);
        badEstate("land a seen;", 1, 11);
        badEstate("land a house x;", 1, 13);
        badEstate("person a;", 1, 8);
        badEstate("person a wife dead dead;", 1, 19);
        badEstate("person a kin;", 1, 12);
        badEstate("thing t;", 1, 7);
        badEstate("thing t 5 at;", 1, 10);
        badEstate("give t to p;", 1, 0);
        badEstate("land a seen 4;", 2, 12);
        badEstate("land a wife 101;", 2, 12);
        badEstate("land a force 91;", 2, 13);
        badEstate("thing t 0;", 2, 8);
        badEstate("thing t 10000;", 2, 8);
        badEstate("land a; land a;", 3, 13);
        badEstate("person p child; person p wife;", 3, 23);
        badEstate("thing t 1; thing t 1;", 3, 17);
        badEstate("person p wife dead; person q wife;", 3, 29);
        badEstate("land a; court a; court a;", 3, 17);
        badEstate("land a; home a; home b;", 3, 16);
        badEstate("land a; born a; born 1;", 3, 16);
        badEstate("owed 1; owed 1;", 3, 8);
        badEstate("land a gain void gain gift;", 3, 17);
        badEstate("land a seen 0 hand pencil gain gift wed part tear wake lost wife 1 force 1 house own move own hand;", 3, 94);
        badEstate("land a house own move own house own;", 3, 26);
        badEstate("land a;land b;land c;land d;land a;", 4, 28);
        badEstate("land a;land b;land c;land d;land", 4, 28);
        StringBuilder b = new StringBuilder();
        for (int i = 0; i < 8; i++) {
            b.append("person ").append((char) ('a' + i)).append(" child;");
        }
        badEstate(b + "person x child;", 4, 8 * 15);
        badEstate(b.toString().replace("person", "thing").replace("child", "1") + "thing a;", 4, 8 * 10);
        badEstate("court a;", 5, 6);
        badEstate("person p kin p;", 5, 13);
        badEstate("land a; court b;", 5, 14);
        badEstate("person p child; thing t 5 in p;", 5, 29);
    }

    private static void faultsOfPapers() {
        promise = 6;
        badPaper("land a;", 1, 0);
        badPaper("made 5;", 1, 6);
        badPaper("give t p;", 1, 7);
        badPaper("give 5 to p;", 1, 5);
        badPaper("pay t to p;", 1, 4);
        badPaper("give t to p if fact dead;", 1, 20);
        badPaper("give t to p if q;", 1, 16);
        badPaper("give t to p not;", 1, 12);
        badPaper("rest to p q;", 1, 10);
        badPaper("undo 0;", 1, 5);
        badPaper("undo paper;", 1, 10);
        badPaper("again paper 0;", 1, 6);
        badPaper("signed", 1, 6);
        badPaper("made 10000 10000;", 2, 5);
        badPaper("made 5 10000;", 2, 7);
        badPaper("pay 0 to p;", 2, 4);
        badPaper("undo paper 2;", 2, 11);
        badPaper("again 2;", 2, 6);
        badPaper("with 2;", 2, 5);
        badPaper("pay 1 to p if fact 3;", 2, 19);
        badPaper("made 1 1; made 1 1;", 3, 10);
        badPaper("hand; hand;", 3, 6);
        badPaper("pencil; pencil;", 3, 8);
        badPaper("signed; signed;", 3, 8);
        badPaper("rest to p; rest to q;", 3, 11);
        badPaper("with 0; with 1;", 3, 8);
        badPaper("by p; by q; by p;", 3, 15);
        badPaper("give t to p; give t to q;", 3, 18);
        badPaper("undo paper 1; undo paper 1;", 3, 25);
        badPaper("again 1; again 1;", 3, 15);
        badPaper("by p; by q; by r; by p;", 4, 18);
        badPaper("pay 1 to p;pay 1 to p;pay 1 to p;pay 1 to p;pay 1 to p;pay 1 to p;give t to p;give u to p;pay 0 to p;", 4, 90);
        badPaper("rest to p and q and r and s and p;", 4, 28);
        badPaper("by t;", 5, 3);
        badPaper("give p to p;", 5, 5);
        badPaper("give t to t;", 5, 10);
        badPaper("pay 5 to x;", 5, 9);
        badPaper("pay 5 to p if x dead;", 5, 14);
        badPaper("rest to p and x;", 5, 14);
        promise = 5;
        WhichWill x = desk(FOLK, "", "");
        due("undo twice, again besides", paper(x, "undo; undo; undo paper 0; again 0; undo paper 1; again 1; with 1;"), 2);
    }

    private static void events() {
        promise = 7;
        WhichWill x = desk(FOLK);
        due("kind", x.event(-1, 0, 0, 0, NONE), RANGE);
        due("kind", x.event(5, 0, 0, 0, NONE), RANGE);
        due("no paper", x.event(2, 0, 0, 0, NONE), RANGE);
        due("wedding without papers", x.event(0, -7, 0, 9999, 2), 0);
        due("parting without papers", x.event(1, 9, 9999, 9999, 0), 1);
        paper(x, "");
        due("paper", x.event(4, 1, 0, 0, NONE), RANGE);
        due("paper", x.event(3, -1, 0, 0, NONE), RANGE);
        due("first", x.event(0, 0, -1, 0, NONE), RANGE);
        due("last", x.event(0, 0, 0, 10000, NONE), RANGE);
        due("days", x.event(0, 0, 2, 1, NONE), RANGE);
        due("fact", x.event(0, 0, 0, 0, 3), RANGE);
        due("fact", x.event(0, 0, 0, 0, -2), RANGE);
        due("none of these told", x.told(4), 2);
        due("lost", x.event(4, 0, 0, 0, 1), 2);
        due("a fourth", x.event(4, 0, 0, 0, 1), FULL);
        due("a fourth, and no such kind", x.event(7, 0, 0, 0, 1), RANGE);
        x = desk(FOLK, "", "", "", "");
        due("first", x.event(0, 0, 0, 0, NONE), 0);
        due("second", x.event(0, 0, 0, 0, NONE), 1);
        due("six items", x.event(0, 0, 0, 0, NONE), FULL);
    }

    private static void told() {
        promise = 8;
        WhichWill x = desk("land a; land b; land c; court b; born c; person p friend; person w wife dead; person q kin w;"
                + "thing t 9999; thing h 1 in c; money 99999; owed 12;");
        int[] want = {3, 3, 2, 0, 0, 99999, 12, 1, 0, 2, 1};
        for (int i = 0; i < want.length; i++) {
            due("told " + i, x.told(i), want[i]);
        }
        due("worth", x.told(20), 9999);
        due("worth", x.told(21), 1);
        due("no thing", x.told(22), NONE);
        due("it moves", x.told(30), NONE);
        due("it stands", x.told(31), 2);
        due("no thing", x.told(32), NONE);
        due("alive", x.told(40), 0);
        due("dead", x.told(41), 1);
        due("alive", x.told(42), 0);
        due("nobody", x.told(43), NONE);
        due("others", x.told(11), NONE);
        due("others", x.told(19), NONE);
        due("others", x.told(-1), NONE);
        due("others", x.told(Integer.MIN_VALUE), NONE);
        due("others", x.told(Integer.MAX_VALUE), NONE);
        estate(x, "person p child;");
        due("no lands, no court", x.told(7), NONE);
        due("no lands, no home", x.told(8), NONE);
        due("no lands, not born", x.told(9), NONE);
        due("no wife", x.told(10), NONE);
    }

    private static void rules() {
        promise = 9;
        WhichWill x = desk("land a; land b move born house there force 90 wife 100 lost wake tear part wed gain gift pencil hand seen 3;"
                + "land c house home move home gain void wife 0 seen 0; land d house own move own;");
        int[][] want = {
            {2, 0, 0, 0, 0, 0, 0, 0, 0, 50, 0, 0, 0},
            {3, 1, 1, 2, 1, 1, 1, 1, 1, 100, 90, 1, 3},
            {0, 0, 0, 1, 0, 0, 0, 0, 0, 0, 0, 2, 2},
            {2, 0, 0, 0, 0, 0, 0, 0, 0, 50, 0, 0, 0}};
        for (int land = 0; land < 4; land++) {
            for (int what = 0; what < 13; what++) {
                due("rule " + land + " " + what, x.rule(land, what), want[land][what]);
            }
        }
        due("no land", x.rule(4, 0), RANGE);
        due("no land", x.rule(-1, 0), RANGE);
        due("no rule", x.rule(0, 13), RANGE);
        due("no rule", x.rule(0, -1), RANGE);
        estate(x, "land x;");
        due("a land told anew", x.rule(0, 0), 2);
        due("no second land", x.rule(1, 0), RANGE);
    }

    private static void looks() {
        promise = 10;
        WhichWill x = desk(FOLK, "", "hand; pencil; signed; made 3 4; by q; by s; give t to p; pay 99999 to q if p dead;"
                + "rest to w and p; undo; undo paper 0; with 0; again 0;");
        int[] plain = {0, 9999, 0, 0, 0, 0, 0, 0, 0, 0, 0, NONE};
        int[] full = {3, 4, 1, 1, 1, 0b01010, 2, 0b10001, 1, 1, 1, 0};
        for (int what = 0; what < 12; what++) {
            due("look 0 " + what, x.look(0, what), plain[what]);
            due("look 1 " + what, x.look(1, what), full[what]);
        }
        due("no paper", x.look(2, 0), RANGE);
        due("no paper", x.look(-1, 0), RANGE);
        due("no what", x.look(0, 12), RANGE);
        due("no what", x.look(0, -1), RANGE);
        paper(x, "undo paper 1; undo paper 0;");
        due("undoes two", x.look(2, 9), 3);
        due("but not all", x.look(2, 8), 0);
    }

    private static void ordersAndItems() {
        promise = 11;
        WhichWill x = desk("land a;", "made 0 5;", "made 5 9;");
        due("both on day 5", x.orders(), 2);
        x = desk("land a;", "made 0 4;", "made 5 9;");
        due("one behind the other", x.orders(), 1);
        x = desk("land a;", "made 5 9;", "made 0 4;", "made 3 7;");
        due("of three", x.orders(), 3);
        promise = 12;
        int[][] rows = {{1, 0, 2}, {1, 2, 0}, {2, 1, 0}};
        for (int order = 0; order < 3; order++) {
            for (int i = 0; i < 3; i++) {
                due("item " + order + " " + i, x.item(order, i), rows[order][i]);
            }
        }
        due("none such", x.item(0, 3), NONE);
        due("none such", x.item(0, -1), NONE);
        due("no order", x.item(3, 0), RANGE);
        due("no order", x.item(-1, 9), RANGE);
        promise = 13;
        due("always", x.ahead(1, 0), 1);
        due("never", x.ahead(0, 1), 0);
        due("in some", x.ahead(0, 2), 2);
        due("in some", x.ahead(2, 1), 2);
        due("alike", x.ahead(1, 1), RANGE);
        due("no such", x.ahead(0, 3), RANGE);
        due("no such", x.ahead(-1, 0), RANGE);
        promise = 11;
        x = desk("land a;", "", "", "", "");
        x.event(0, 0, 0, 9999, NONE);
        x.event(0, 0, 0, 9999, NONE);
        due("of six, all", x.orders(), 720);
        due("the first of the last", x.item(719, 0), 5);
        due("the last of the last", x.item(719, 5), 0);
        promise = 19;
        due("ways", x.ways(), 5760);
        x = desk("person p child;", "");
        due("no ways without lands", x.ways(), 0);
        due("orders all the same", x.orders(), 1);
    }

    private static void laws() {
        promise = 14;
        WhichWill x = desk("land a house there move home; land b house born move born; land c house there move own; court a; home b; born c;"
                + "thing m 1; thing h 1 in a; thing i 1 in b; thing j 1 in c;");
        int[][] want = {{NONE, 2, 0}, {0, 2, 0}, {1, 0, 0}, {2, 1, 1}, {3, 2, 0}};
        for (int[] w : want) {
            promise = 14;
            due("law " + w[0], x.law(w[0]), w[1]);
            promise = 15;
            due("ring " + w[0], x.ring(w[0]), w[2]);
        }
        due("no thing", x.ring(4), RANGE);
        due("no thing", x.ring(-2), RANGE);
        promise = 14;
        due("no thing", x.law(4), RANGE);
        due("no thing", x.law(-2), RANGE);
        x = desk("land a house home move home; land b house born move born; land c house home move home;"
                + "home b; born c; thing h 4 in a;");
        due("a ring that leaves the court out", x.law(0), 1);
        due("and for what moves", x.law(NONE), 1);
        promise = 15;
        due("ring", x.ring(0), 1);
        due("ring", x.ring(NONE), 1);
        x = desk("thing h 4;");
        due("no lands", x.ring(0), NONE);
        due("no lands", x.ring(NONE), NONE);
        promise = 14;
        due("no lands", x.law(0), NONE);
        due("no thing comes first", x.law(1), RANGE);
    }

    private static void goods() {
        promise = 16;
        WhichWill x = desk("land a; land b hand pencil seen 3; land c gain void seen 1; land d gain gift seen 1;"
                + "person p friend; person q friend; person r friend; person s friend; thing t 1;",
                "signed; by p; by q; by r; give t to p if p dead; pay 1 to q if fact 0; rest to s;",
                "hand; pencil; signed;",
                "by p; by q; by r;",
                "signed; by s; rest to p and s; hand;");
        int[][] want = {{1, 1, 1, 1}, {0, 1, 0, 0}, {0, 0, 0, 0}, {0, 1, 0, 1}};
        for (int paper = 0; paper < 4; paper++) {
            for (int land = 0; land < 4; land++) {
                due("good " + paper + " " + land, x.good(paper, land), want[paper][land]);
            }
        }
        due("no paper", x.good(4, 0), RANGE);
        due("no paper", x.good(-1, 0), RANGE);
        due("no land", x.good(0, 4), RANGE);
        due("no land", x.good(0, -1), RANGE);
        x = desk("land a seen 0 pencil; land b seen 0;", "pencil; signed;");
        due("in pencil by a law with it", x.good(0, 0), 1);
        due("in pencil by a law without", x.good(0, 1), 0);
    }

    private static void countsAndUndone() {
        WhichWill x = desk("land a seen 0 wed; land b seen 0 wake tear lost; land c;",
                "made 0 0; signed;", "made 1 1; signed; undo paper 0;", "made 2 2; signed; with 1; again 0;");
        promise = 17;
        due("all stand", x.counts(0, 0), 7);
        due("none is good", x.counts(0, 2), 0);
        promise = 18;
        due("woken", x.undone(0, 0, 0), NONE);
        due("never stood", x.undone(0, 0, 2), NONE);
        x.event(3, 1, 3, 3, 0);
        promise = 17;
        due("unmeant, without tear", x.counts(1, 0), 7);
        due("unmeant, with tear", x.counts(1, 1), 1);
        due("unless the fact is so", x.counts(0, 1), 7);
        promise = 18;
        due("by the tearing", x.undone(1, 1, 1), 3);
        due("with it, but standing", x.undone(2, 1, 1), NONE);
        x.event(4, 0, 4, 4, 1);
        promise = 17;
        due("lost, by a law without it", x.counts(2, 0), 7);
        due("lost, by a law with it", x.counts(2, 1), 6);
        x.event(0, 0, 5, 5, 2);
        due("wed", x.counts(4, 0), 0);
        due("not by a law without it", x.counts(4, 1), 7);
        promise = 18;
        due("by the wedding", x.undone(2, 4, 0), 5);
        due("by what undid it, not by the wedding", x.undone(0, 7, 1), 4);
        due("no paper", x.undone(3, 0, 0), RANGE);
        due("no way", x.undone(0, 8, 0), RANGE);
        due("no way", x.undone(0, -1, 0), RANGE);
        due("no land", x.undone(0, 0, 3), RANGE);
        promise = 17;
        due("no way", x.counts(8, 0), RANGE);
        due("no way", x.counts(-1, 0), RANGE);
        due("no land", x.counts(0, 3), RANGE);
        due("no land", x.counts(0, -1), RANGE);
        // Torn, meant: paper 1 undid paper 0, so that wakes; a paper torn ahead of its day does not matter.
        x = desk("land a seen 0 wake; land b seen 0;", "made 1 1; signed;", "made 2 2; signed; undo;");
        x.event(2, 1, 3, 3, NONE);
        due("wakes", x.counts(0, 0), 1);
        due("does not wake", x.counts(0, 1), 0);
        x.event(2, 0, 0, 0, NONE);
        due("torn ahead of its day", x.counts(0, 0), 1);
        promise = 18;
        due("by paper 1 still", x.undone(0, 0, 1), 1);
        due("by the tearing", x.undone(1, 0, 1), 2);
        // Again wakes only what is GOOD and came ahead.
        x = desk("land a seen 0;", "made 5 5; signed;", "made 1 1;", "made 2 2; signed; again 0; again 1;");
        promise = 17;
        due("again", x.counts(0, 0), 5);
        x = desk("land a seen 0;", "made 1 1; signed;", "made 2 2; signed; undo; again 0;");
        due("undo first, then again", x.counts(0, 0), 3);
        // What stands again may be undone again, by another item.
        x = desk("land a seen 0 wake;", "made 1 1; signed;", "made 2 2; signed; undo paper 0;", "made 3 3; signed; again 0;",
                "made 4 4; signed; undo paper 0;");
        x.event(2, 1, 5, 5, NONE);
        promise = 18;
        due("by the last that undid it", x.undone(0, 0, 0), 3);
        x.event(2, 3, 6, 6, NONE);
        due("awake", x.undone(0, 0, 0), NONE);
        // Two partings: what was void by the first stays so, whatever stands at the second.
        x = desk("land a seen 0 wake part; person w wife; person c child; thing t 3;", "made 1 1; signed; give t to w;",
                "made 3 3; signed; undo;");
        x.event(1, 0, 2, 2, NONE);
        x.event(1, 0, 4, 4, NONE);
        x.event(2, 1, 5, 5, NONE);
        due("awake", x.counts(0, 0), 1);
        due("and void", x.goes(0, 0), 3);
        due("with in a row", desk("land a seen 0;", "", "signed; with 0;", "signed; with 1;").counts(0, 0), 0);
    }

    private static void goesAndHow() {
        WhichWill x = desk("land a seen 0 wife 33; person w wife; person c child; person d child dead; person e kin d; person f kin d dead;"
                + "person g kin f; person h friend; thing t 100; thing u 1; thing v 2;",
                "made 0 0; signed; give t to h if fact 0; give u to d; rest to d;",
                "made 1 1; signed; give t to w if fact 1 not; rest to e and h; give v to c if d alive;");
        promise = 21;
        due("given by the last that holds", x.how(0, 0), 0);
        due("given", x.how(0, 3), 0);
        due("neither holds", x.how(0, 2), 1);
        due("to a dead one", x.how(1, 0), 1);
        due("to one if another lives", x.how(2, 0), 1);
        promise = 20;
        due("to the wife", x.goes(0, 0), 1);
        due("to h", x.goes(0, 3), 64);
        due("to the rest", x.goes(0, 2), 64 + 8);
        due("one alone is enough for the first", x.goes(1, 0), 8);
        due("both", x.goes(2, 0), 64 + 8);
        due("no thing", x.goes(3, 0), RANGE);
        due("no thing", x.goes(-1, 0), RANGE);
        due("no way", x.goes(0, 8), RANGE);
        due("no way", x.goes(0, -1), RANGE);
        promise = 21;
        due("no thing", x.how(3, 0), RANGE);
        due("no way", x.how(0, 8), RANGE);
        // BY KIN: 33 of 100 to the wife; 67: 34 to c, 33 to d's stems: 17 to e, 16 to g for f.
        x = desk("land a seen 0 wife 33; person w wife; person c child; person d child dead; person e kin d; person f kin d dead;"
                + "person g kin f; person h friend; thing t 100; thing u 1; thing v 2;");
        promise = 21;
        due("by kin", x.how(0, 0), 2);
        promise = 20;
        due("by kin", x.goes(0, 0), 1 + 2 + 8 + 32);
        due("one goes to the first stem", x.goes(1, 0), 2);
        due("two to both", x.goes(2, 0), 2 + 8);
        promise = 23;
        int[] sums = {33, 34 + 1 + 1, 0, 17 + 1, 0, 16, 0};
        for (int p = 0; p < sums.length; p++) {
            due("sum " + p, x.sum(p, 7), sums[p]);
        }
        promise = 21;
        due("to the wife alone", desk("land a; person w wife; thing t 1;").how(0, 0), 2);
        due("to nobody", desk("land a; person w wife dead; person c child dead; person k friend; thing t 1;").how(0, 0), 3);
        promise = 20;
        due("to the wife alone", desk("land a wife 0; person w wife; person k kin w; thing t 1;").goes(0, 0), 1);
        due("to nobody", desk("land a; person w wife dead; person c child dead; person k friend; thing t 1;").goes(0, 0), 0);
        due("wife 0 in a hundred", desk("land a wife 0; person w wife; person c child; thing t 9;").goes(0, 0), 2);
        due("wife 100 in a hundred", desk("land a wife 100; person w wife; person c child; thing t 9;").goes(0, 0), 1);
        due("no part to a dead wife", desk("land a wife 100; person w wife dead; person c child; thing t 9;").goes(0, 0), 2);
        voids();
        houses();
    }

    private static void voids() {
        promise = 20;
        WhichWill x = desk("land a gain gift seen 1; person w wife; person c child; person f friend; thing t 9; thing u 4;",
                "made 0 0; signed; by c; give t to f; rest to w;", "made 1 1; signed; by f; give t to f; rest to f;");
        due("what a witness is given is void", x.goes(0, 0), 4);
        due("and what is left to one", x.goes(1, 0), 1);
        x = desk("land a seen 0 part; person w wife; person c child; thing t 9; thing u 4;",
                "made 0 0; signed; give t to w; rest to w and c;", "made 9 9; signed; give t to w if fact 0;");
        x.event(1, 0, 5, 5, 1);
        due("ahead of the parting", x.goes(1, 0), 3);
        due("behind it", x.goes(1, 2), 2);
        due("given ahead of it: void", x.goes(0, 2), 2);
        due("given behind it: not", x.goes(0, 3), 1);
        x = desk("land a seen 1 part gain gift; person w wife; person c child; person f friend; thing t 9;",
                "made 0 0; signed; by f; rest to w and f;");
        x.event(1, 0, 5, 5, NONE);
        promise = 21;
        due("void for both", x.how(0, 0), 2);
        x = desk("land a seen 0; person w wife; thing t 9;", "made 0 0; signed; give t to w;");
        x.event(1, 0, 5, 5, NONE);
        promise = 21;
        due("parting by a law without it", x.how(0, 0), 0);
        x = desk("land a seen 0 part; person c child; person w friend; thing t 9;", "made 0 0; signed; give t to w;");
        x.event(1, 0, 5, 5, NONE);
        due("parting without a wife", x.how(0, 0), 0);
    }

    private static void houses() {
        promise = 20;
        WhichWill x = desk("land a house there seen 3; land b seen 0; person c child; person f friend; thing h 10 in b; thing i 10 in a; thing m 9;",
                "signed; rest to f;");
        due("by the law of where it stands", x.goes(0, 0), 2);
        due("by the court's law", x.goes(1, 0), 1);
        due("what moves, by the court's law", x.goes(2, 0), 1);
    }

    private static void money() {
        promise = 22;
        WhichWill x = desk("land a seen 0; person p friend; person q friend; person r friend dead; person s friend; money 110; owed 10;",
                "made 2 2; signed; pay 33 to p; pay 50 to q if fact 0; pay 7 to r; rest to s;",
                "made 1 1; signed; pay 40 to p; pay 11 to q if fact 0;");
        due("paid whole", x.paid(0, 0), 73);
        due("dead ones are not", x.paid(2, 0), 0);
        // In the order: 40, 11, 33, 50 of 134: 29, 8, 24, 37 and 2 over, to the first two.
        due("cut", x.paid(0, 1), 30 + 24);
        due("cut", x.paid(1, 1), 9 + 37);
        due("nobody", x.paid(4, 0), RANGE);
        due("nobody", x.paid(-1, 0), RANGE);
        due("no way", x.paid(0, 8), RANGE);
        promise = 23;
        due("what is left", x.sum(3, 0), 27);
        due("nothing is left", x.sum(3, 1), 0);
        due("nobody", x.sum(4, 0), RANGE);
        due("no way", x.sum(0, -1), RANGE);
        promise = 22;
        x = desk("land a seen 0; person p friend; money 36;", "signed; pay 1 to p; pay 2 to p; pay 3 to p; pay 4 to p;"
                + "pay 5 to p; pay 6 to p; pay 7 to p; pay 8 to p if fact 2;");
        due("eight gifts", x.paid(0, 4), 36);
        due("seven of them", x.paid(0, 3), 28);
        promise = 27;
        due("what is not paid is lost to p", x.hangs(2), 1);
        promise = 22;
        x = desk("land a seen 0; person p friend; money 99999; owed 0;", "signed; pay 99999 to p; pay 99999 to p; pay 99999 to p;");
        due("great sums", x.paid(0, 0), 99999);
        x = desk("land a seen 0; person p friend; money 5; owed 6;", "signed; pay 3 to p;");
        due("more owed than there is", x.paid(0, 0), 0);
        promise = 23;
        x = desk("land a seen 0 wife 10; person w wife; person c child; money 99;");
        due("money by kin, cut", x.sum(0, 0), 9);
        due("the other part", x.sum(1, 0), 90);
        String elsewhere = "land a; land b seen 0; court b; person p friend; money 5;";
        due("by another law than the first", desk(elsewhere, "signed; rest to p;").sum(0, 0), 5);
        promise = 22;
        due("by another law than the first", desk(elsewhere, "signed; pay 4 to p;").paid(0, 0), 4);
        promise = 24;
        x = desk("land a seen 0 force 33 move home; land b force 90 seen 0; home b; person p friend; person c child; person k kin p; money 20; owed 9; thing t 80;",
                "signed; give t to p; pay 5 to k; rest to c;");
        due("short: 90 in a hundred of 91, less 11", x.lack(0), 81 - 11);
        due("no way", x.lack(8), RANGE);
        due("no way", x.lack(-1), RANGE);
        due("by another law than the first", desk("land a; land b force 50; court b; money 21;").lack(0), 10);
        due("not short", desk("land a force 90; person c child; money 20;").lack(0), 0);
        due("nobody to be short", desk("land a force 50; money 21;").lack(0), 10);
    }

    private static WhichWill twoWays() {
        // Given to p, unless fact 0 is so and the paper came ahead of the wedding.
        WhichWill x = desk("land a seen 0 wed; person c child; person p friend; thing t 10; money 4;", "signed; give t to p;");
        x.event(0, 0, 0, 9999, 0);
        return x;
    }

    private static void sure() {
        WhichWill x = twoWays();
        promise = 25;
        due("least", x.sure(0, false), 4);
        due("greatest", x.sure(0, true), 14);
        due("least", x.sure(1, false), 0);
        due("greatest", x.sure(1, true), 10);
        due("nobody", x.sure(2, true), RANGE);
        due("nobody", x.sure(-1, false), RANGE);
        due("no ways", desk("person p child;").sure(0, true), NONE);
        due("nobody, and no ways", desk("person p child;").sure(1, true), RANGE);
        promise = 26;
        due("not alike", x.surely(0), NONE);
        due("no thing", x.surely(1), RANGE);
        due("no thing", x.surely(-1), RANGE);
        due("no ways", desk("thing t 1;").surely(0), NONE);
        due("to nobody, surely", desk("land a; thing t 1;").surely(0), 0);
        due("by another law than the first", desk("land a; land b seen 0; court b; person p child; person q friend; thing t 2;",
                "signed; rest to q;").surely(0), 2);
        due("to two, surely", desk("land a; person p child; person q child; thing t 2;").surely(0), 3);
        promise = 27;
        due("hangs", x.hangs(0), 1);
        due("does not", x.hangs(1), 0);
        due("no fact", x.hangs(3), RANGE);
        due("no fact", x.hangs(-1), RANGE);
        due("no ways", new WhichWill().hangs(0), NONE);
        promise = 28;
        due("two outcomes", x.outcomes(), 2);
        due("without people", desk("land a; thing t 1;").outcomes(), 1);
        due("without ways", desk("person p child;").outcomes(), 0);
        x.event(1, 0, 0, 9999, NONE);
        due("no more by a parting that does nothing", x.outcomes(), 2);
    }

    private static void asking() {
        promise = 29;
        due("no one question parts them surely", twoWays().ask(), NONE);
        WhichWill x = desk("land a seen 0; person p friend; person q friend; thing t 10;", "signed; give t to p;", "signed; give t to q;");
        due("whether 0 came ahead of 1", x.ask(), 10 + 1);
        paper(x, "made 0 0; signed;");
        due("still", x.ask(), 11);
        x = desk("land a seen 0; person p friend; person q friend; thing t 10;", "made 0 0; signed;", "made 5 6; signed; give t to p;",
                "made 6 7; signed; give t to q;");
        due("whether 1 came ahead of 2", x.ask(), 10 + 10 + 2);
        x = desk("land a seen 0; person p friend; thing t 10; money 9;", "signed; pay 1 to p if fact 1; pay 2 to p if fact 2;");
        due("fact 1 leaves two of four", x.ask(), 1);
        due("nothing to ask", desk("land a;", "", "").ask(), NONE);
        due("no ways", desk("person p friend;").ask(), NONE);
    }

    private static void stories() {
        WhichWill x = twoWays();
        promise = 30;
        due("says", x.says(0, 0, 1), 0);
        due("nobody", x.says(2, 0, 1), RANGE);
        due("nobody", x.says(-1, 0, 1), RANGE);
        due("no fact", x.says(0, 3, 1), RANGE);
        due("no fact", x.says(0, -1, 1), RANGE);
        due("so", x.says(0, 0, 2), RANGE);
        due("so", x.says(0, 0, -1), RANGE);
        promise = 31;
        due("tells", x.tells(1, 1, 0), 1);
        due("nobody", x.tells(2, 1, 0), RANGE);
        due("no item", x.tells(0, 2, 0), RANGE);
        due("no item", x.tells(0, 0, -1), RANGE);
        due("alike", x.tells(0, 1, 1), RANGE);
        promise = 32;
        due("all can be", x.stories(0), 0);
        due("none is false", x.stories(1), 0);
        due("ways", x.stories(2), 4);
        due("another what", x.stories(3), NONE);
        due("another what", x.stories(-1), NONE);
        promise = 33;
        due("gain", x.gain(0), 14 - 4);
        due("gain", x.gain(1), 0);
        due("no story", x.gain(2), -1000000);
        due("no story", x.gain(-1), -1000000);
        promise = 30;
        x.says(1, 0, 0);
        x.says(1, 0, 0);
        promise = 32;
        due("one is false", x.stories(0), 1);
        due("the one", x.stories(1), 1);
        due("ways", x.stories(2), 4);
        x.says(0, 0, 1);
        due("two are false", x.stories(0), 2);
        due("either two", x.stories(1), 0);
        due("ways", x.stories(2), 8);
        promise = 33;
        due("p gains", x.gain(2), 10 - 10);
        // A paper more: the wedding that was told of is another item, and no other story.
        promise = 31;
        due("paper", paper(x, "made 0 0;"), 1);
        due("event 0 is item 2", x.tells(0, 2, 0), 5);
        promise = 32;
        due("so it is as the other story", x.stories(0), 2);
        promise = 31;
        due("seventh", x.tells(0, 0, 1), 6);
        due("eighth", x.tells(0, 1, 0), 7);
        due("a ninth", x.tells(0, 0, 1), FULL);
        due("a ninth, and alike", x.tells(0, 1, 1), RANGE);
        promise = 30;
        due("a ninth", x.says(0, 0, 1), FULL);
        due("a ninth, and no fact", x.says(0, 5, 1), RANGE);
        promise = 37;
        due("count", x.count(1), 8);
        promise = 33;
        // Paper 1 is of day 0, paper 0 can be too: both happen.
        due("gain of who gets as much either way", x.gain(6), 0);
        x = desk("person p child; money 5;");
        x.says(0, 0, 1);
        due("no ways", x.gain(0), NONE);
        due("no story comes first", x.gain(1), -1000000);
        promise = 32;
        due("no ways", x.stories(0), NONE);
        // A story of event 0 stays one of event 0, when a paper more moves it.
        x = desk("land a; person p friend;", "made 5 5;");
        x.event(0, 0, 9, 9, NONE);
        x.tells(0, 0, 1);
        paper(x, "made 1 1;");
        promise = 31;
        due("event 0 came behind paper 0", x.stories(0), 0);
        promise = 33;
        x = desk("land a seen 0; person p friend; thing t 7;", "made 0 0; signed; give t to p;", "made 1 1;");
        x.tells(0, 1, 0);
        x.tells(0, 0, 1);
        promise = 33;
        due("never true", x.gain(0), -7);
        due("never false", x.gain(1), 7);
        promise = 32;
        due("one surely", x.stories(1), 1);
        promise = 4;
        estate(x, "land a; person p child;");
        due("no stories then", x.gain(0), -1000000);
    }

    private static void settlements() {
        WhichWill x = twoWays();
        promise = 34;
        due("c leaves", settle(x, "3 11"), 1);
        due("both leave", settle(x, "4 9"), 3);
        due("nobody leaves", settle(x, " 4\n10 "), 0);
        due("tape", x.count(3), 0);
        due("too few", settle(x, "4"), NONE);
        due("too many", settle(x, "4 10 0"), NONE);
        due("no row", settle(x, "4 10;"), NONE);
        due("no row", settle(x, "4 x"), NONE);
        due("too long", settle(x, "4 000010"), NONE);
        due("tape", x.count(3), 0);
        due("the longest", settle(x, "00004 99999"), 0);
        due("fault is not touched", x.fault(0), 0);
        due("no ways", settle(desk("person p child;"), "5"), STATE);
        due("no row, and no ways", settle(desk("person p child;"), ""), NONE);
        due("nobody at all", settle(desk("land a;"), ""), 0);
        x = desk("land a; person p child; person q child; person r child; money 30;");
        due("the least as bits", settle(x, "9 11 9"), 1);
        due("the least as bits", settle(x, "10 10 9"), 4);
        due("the least as bits", settle(x, "10 9 9"), 2);
        promise = 35;
        x = twoWays();
        due("c", x.floor(1), 4);
        due("p", x.floor(2), 0);
        due("both", x.floor(3), 14);
        due("nobody", x.floor(0), 0);
        due("beyond", x.floor(4), RANGE);
        due("below", x.floor(-1), RANGE);
        due("no ways", desk("person p child;").floor(1), NONE);
        due("beyond, and no ways", desk("person p child;").floor(2), RANGE);
    }

    private static void mending() {
        promise = 36;
        String folk = "land a seen 2 hand; person c child; person p friend; person q friend; thing t 9;";
        due("nothing to mend", desk(folk, "signed; by c; by q; give t to p;").mend(0, 0, 1), 0);
        due("signed", desk(folk, "by c; by q; give t to p;").mend(0, 0, 1), 1);
        due("by hand: of two changes the lesser", desk(folk, "signed; by c; give t to p;").mend(0, 0, 1), 2);
        due("one more witness", desk(folk.replace(" hand", ""), "signed; by c; give t to p;").mend(0, 0, 1), 8);
        due("two witnesses are too many", desk(folk.replace(" hand", ""), "signed; give t to p;").mend(0, 0, 1), NONE);
        due("not in pencil", desk(folk, "signed; pencil; hand; give t to p;").mend(0, 0, 1), 4);
        due("three changes", desk(folk, "pencil; by c; give t to p;").mend(0, 0, 1), 7);
        due("no change gives it to another", desk(folk, "signed; hand; give t to p;").mend(0, 0, 2), NONE);
        due("by kin", desk(folk, "pencil;").mend(0, 0, 0), 0);
        WhichWill x = desk(folk, "signed; hand; give t to q;", "signed; hand; rest to p;");
        due("it undoes the other, if it comes last", x.mend(1, 0, 1), 48);
        due("the other comes last", x.mend(0, 0, 2), 0);
        x = desk(folk, "signed; hand; give t to q;", "signed; hand; give t to p;");
        due("last", x.mend(1, 0, 1), 32);
        due("last", x.mend(0, 0, 2), 32);
        x = desk(folk, "made 1 1; signed; hand; give t to q;", "made 2 2; signed; hand; rest to p;");
        due("undo is enough", x.mend(1, 0, 1), 16);
        x = desk(folk, "made 1 1; signed; hand; give t to q;", "made 0 0; signed; hand; give t to p;");
        due("it can't come last", x.mend(1, 0, 1), NONE);
        x = desk(folk, "signed; hand; give t to p if fact 2;");
        due("not in all ways", x.mend(0, 0, 1), NONE);
        due("the fact is not so in some", x.mend(0, 0, 0), NONE);
        due("no paper", x.mend(1, 0, 0), RANGE);
        due("no paper", x.mend(-1, 0, 0), RANGE);
        due("no thing", x.mend(0, 1, 0), RANGE);
        due("nobody", x.mend(0, 0, 3), RANGE);
        due("without ways", desk("person p child; thing t 1;", "").mend(0, 0, 0), NONE);
        due("parts are not whole", desk("land a; person p child; person q child; thing t 2;", "").mend(0, 0, 0), NONE);
        due("one that is whole for the first", desk("land a; person p child; person q child; thing t 1;", "").mend(0, 0, 0), 0);
        x = desk("land a seen 0 wed; person c child; person p friend; thing t 9;", "signed; give t to p;");
        x.event(0, 0, 0, 9999, NONE);
        due("behind the wedding", x.mend(0, 0, 1), 32);
        due("what is mended is not changed", x.counts(0, 0), 0);
        due("nor later", x.goes(0, 8), 2);
    }

    private static void counting() {
        promise = 37;
        WhichWill x = desk("land a; person p child;", "");
        x.event(0, 0, 0, 0, NONE);
        x.says(0, 0, 0);
        type(x, "abc");
        due("clauses", x.count(0), 2);
        due("stories", x.count(1), 1);
        due("items", x.count(2), 2);
        due("bytes", x.count(3), 3);
        due("others", x.count(4), NONE);
        due("others", x.count(-1), NONE);
    }

    public static void main(String[] args) {
        newObject();
        feedAndEnd();
        estates();
        papers();
        faultsOfEstates();
        faultsOfPapers();
        events();
        told();
        rules();
        looks();
        ordersAndItems();
        laws();
        goods();
        countsAndUndone();
        goesAndHow();
        money();
        sure();
        asking();
        stories();
        settlements();
        mending();
        counting();
        System.out.println(wrong == 0 ? "all promises hold" : wrong + " answers are not as due");
        if (wrong != 0) {
            System.exit(1);
        }
    }
}
