/** Each sentence on THE TAPE, TOKENS, texts and FAULTS that names a bound: at it, and on both sides. */
public final class TextBoundsTest {
    private static final int NONE = Due.NONE;
    private static final int RANGE = Due.RANGE;
    private static final int FULL = Due.FULL;
    private static final int STATE = Due.STATE;
    private static final int SYNTAX = 1;
    private static final int BOUNDS = 2;
    private static final int TWICE = 3;
    private static final int ROOM = 4;
    private static final int UNKNOWN = 5;
    private static final String FOLK = "land a;" + Due.clauses(8, "person p# friend;") + Due.clauses(8, "thing t# 1;");

    private static WhichWill tapeOf(int bytes) {
        WhichWill desk = new WhichWill();
        Telling.type(desk, " ".repeat(bytes));
        Due.is("tape of " + bytes, desk.count(3), bytes);
        return desk;
    }

    private static void tape() {
        Due.sentence("Terms I", "THE TAPE has at most 900 bytes");
        for (int bytes = 861; bytes <= 880; bytes++) {
            Due.is("feed behind " + bytes, Telling.feed(tapeOf(bytes), ""), bytes + 20);
        }
        for (int bytes = 881; bytes <= 900; bytes++) {
            WhichWill desk = tapeOf(bytes);
            Due.is("feed behind " + bytes, Telling.feed(desk, ""), FULL);
            Due.is("tape behind FULL", desk.count(3), bytes);
        }
        Due.sentence("Promise 2", "FULL when there would be more than 900");
        WhichWill desk = new WhichWill();
        for (int i = 1; i <= 44; i++) {
            Due.is("feed", Telling.feed(desk, " ".repeat(20)), 20 * i);
        }
        Due.is("feed", Telling.feed(desk, "            money 7;"), 900);
        Due.is("feed beyond", Telling.feed(desk, "owed 5;             "), FULL);
        Due.is("no byte of it came", desk.estate(), 1);
        Due.is("the last byte did", desk.told(5), 7);
        Due.is("nothing owed", desk.told(6), 0);
        Due.is("room again", Telling.feed(desk, ""), 20);
        Due.is("end ahead of FULL", tapeOf(900).end(880), 880);
        desk = tapeOf(900);
        desk.end(880);
        Due.is("room again behind end", Telling.feed(desk, ""), 900);
        Due.sentence("Promise 2", "Twenty bytes come behind THE TAPE, the highest of each int first");
        for (int place = 0; place < 20; place++) {
            for (char odd : new char[] {'A', 0, 127, 128, 255}) {
                desk = new WhichWill();
                Due.is("feed", Telling.feed(desk, " ".repeat(place) + odd + " ".repeat(19 - place)), 20);
                Due.is("estate", desk.estate(), NONE);
                Due.is("place of byte " + (int) odd, desk.fault(1), place);
            }
        }
        Due.is("all ones", new WhichWill().feed(-1, -1, -1, -1, -1), 20);
        Due.is("extremes", new WhichWill().feed(Integer.MIN_VALUE, Integer.MAX_VALUE, 0, -1, 1), 20);
    }

    private static void end() {
        Due.sentence("Promise 3", "NONE when it has not so many, or n is below 0");
        WhichWill desk = new WhichWill();
        Due.is("end 0 of none", desk.end(0), 0);
        Due.is("end 1 of none", desk.end(1), NONE);
        Due.is("end below 0 of none", desk.end(-1), NONE);
        desk = tapeOf(20);
        for (int n : new int[] {-1, -20, Integer.MIN_VALUE, 21, 40, 900, 901, Integer.MAX_VALUE}) {
            Due.is("end " + n, desk.end(n), NONE);
            Due.is("tape behind it", desk.count(3), 20);
        }
        Due.is("end 20 of 20", desk.end(20), 20);
        Due.is("end 19 of 20", desk.end(19), 19);
        Due.is("end 20 of 19", desk.end(20), NONE);
        Due.is("end 0 of 19", desk.end(0), 0);
        Due.is("end 1 of 0", desk.end(1), NONE);
        desk = tapeOf(900);
        Due.is("end 901 of 900", desk.end(901), NONE);
        Due.is("end 900 of 900", desk.end(900), 900);
        Due.is("end 899 of 900", desk.end(899), 899);
        Due.sentence("Promise 3", "THE TAPE has its first n bytes alone");
        desk = new WhichWill();
        Telling.feed(desk, "money 12345;");
        desk.end(8);
        Telling.feed(desk, ";                   ");
        Due.is("what was behind is gone", desk.estate(), 1);
        Due.is("money 12", desk.told(5), 12);
    }

    private static void emptied(String call, WhichWill desk, int got, int want) {
        Due.is(call, got, want);
        Due.is("tape behind " + call, desk.count(3), 0);
    }

    private static void reading() {
        Due.sentence("Terms I", "each call that reads it empties it, whatever it tells");
        WhichWill desk = new WhichWill();
        emptied("estate", desk, Telling.estate(desk, "land a seen 0; person p child;"), 2);
        emptied("estate, none", desk, Telling.estate(desk, "land"), NONE);
        emptied("paper", desk, Telling.paper(desk, "signed;"), 0);
        emptied("paper, none", desk, Telling.paper(desk, "signed"), NONE);
        emptied("settle, nobody", desk, Telling.settle(desk, "0"), 0);
        emptied("settle, no row", desk, Telling.settle(desk, "0 0"), NONE);
        for (int i = 1; i < 4; i++) {
            emptied("paper", desk, Telling.paper(desk, ""), i);
        }
        emptied("paper, FULL", desk, Telling.paper(desk, "signed;"), FULL);
        emptied("estate", desk, Telling.estate(desk, "land a; person p child; money 1;"), 3);
        emptied("settle, somebody", desk, Telling.settle(desk, "0"), 1);
        emptied("estate", desk, Telling.estate(desk, "person p child;"), 1);
        emptied("settle, no ways", desk, Telling.settle(desk, "0"), STATE);
        desk = threeAndThree();
        emptied("paper, FULL by ITEMS", desk, Telling.paper(desk, "signed;"), FULL);
        Telling.type(desk, "abc");
        desk.fault(0);
        desk.outcomes();
        desk.mend(0, 0, 0);
        Due.is("others leave it", desk.count(3), 3);
    }

    private static WhichWill threeAndThree() {
        WhichWill desk = Due.desk("land a; person p friend; thing t 1;", "", "", "");
        for (int i = 0; i < 3; i++) {
            Due.is("event", desk.event(0, 0, 0, 0, NONE), i);
        }
        return desk;
    }

    private static void tokens() {
        Due.sentence("Terms I", "TOKENS with any blanks (32, 10) between");
        Due.desk("");
        Due.desk(" \n \n");
        Due.desk("land a seen0hand;money7;");
        Due.desk("\nland\n\n a  seen 0\nhand ; money \n 7 ;\n");
        for (int other : new int[] {0, 9, 11, 12, 13, 31, 33, 95, 128, 160, 255}) {
            Due.badEstate(SYNTAX, "land a;^" + (char) other + "money 1;");
        }
        Due.sentence("Terms I", "WORDS (small letters, as many as there are, 8 at most)");
        Due.desk("land abcdefg; court abcdefg;");
        Due.desk("land abcdefgh; court abcdefgh;");
        Due.desk("land stuvwxyz; court stuvwxyz;");
        Due.badEstate(SYNTAX, "land ^abcdefghi;");
        Due.badEstate(SYNTAX, "land ^" + "a".repeat(894));
        Due.badEstate(SYNTAX, "^landa a;");
        Due.badEstate(SYNTAX, "^lan a;");
        Due.badEstate(UNKNOWN, "land abcdefgh; court ^abcdefgg;");
        Due.badEstate(UNKNOWN, "land abcdefgh; court ^bbcdefgh;");
        Due.badEstate(UNKNOWN, "land aa; court ^a;");
        Due.badEstate(UNKNOWN, "land a; court ^aa;");
        // Names that are near to one another are still others.
        Due.is("four", Due.desk("land b; land bb; land aq; land ba; court ba;").told(7), 3);
        Due.is("four", Due.desk("land aaaaaaaa; land zaaaaaaa; land aaaaaaaz; land aaaaaaa; court aaaaaaa;").told(7), 3);
        Due.is("four", Due.desk("land az; land ba; land za; land zz; court ba;").told(7), 1);
        for (char odd : new char[] {'`', '{', 'A', 'Z', '@', '[', 'a' + 128, 'z' + 128}) {
            Due.badEstate(SYNTAX, "land ^" + odd + ";");
            Due.badEstate(SYNTAX, "land a^" + odd + ";");
        }
        Due.sentence("Terms I", "N (digits, as many as there are, 5 at most)");
        Due.is("five digits", Due.desk("money 00007;").told(5), 7);
        Due.is("five digits", Due.desk("money 99999;").told(5), 99999);
        Due.is("all digits", Due.desk("money 12345; owed 67890;").told(6), 67890);
        Due.badEstate(SYNTAX, "money ^000007;");
        Due.badEstate(SYNTAX, "money ^100000;");
        Due.badEstate(SYNTAX, "money ^4294967297;");
        Due.badEstate(SYNTAX, "money ^" + "0".repeat(894));
        Due.badEstate(SYNTAX, "money 1 ^2;");
        for (char odd : new char[] {'/', ':', '-', '+', '.', '0' + 128}) {
            Due.badEstate(SYNTAX, "money ^" + odd + "1;");
            Due.badEstate(SYNTAX, "money 1^" + odd + ";");
        }
        Due.sentence("Terms I", "TOKENS: ;");
        Due.badEstate(SYNTAX, "money 1^:");
        Due.badEstate(SYNTAX, "money 1^<");
        Due.badEstate(SYNTAX, "money 1;^;");
        Due.badEstate(SYNTAX, "^;");
    }

    private static void rooms() {
        Due.sentence("Terms I", "LANDS, at most 4");
        Due.is("three", Due.desk(Due.clauses(3, "land #;")).told(0), 3);
        Due.is("four", Due.desk(Due.clauses(4, "land #;")).told(0), 4);
        Due.badEstate(ROOM, Due.clauses(4, "land #;") + "^land e;");
        Due.badEstate(ROOM, Due.clauses(4, "land #;") + "^land a;");
        Due.badEstate(ROOM, Due.clauses(4, "land #;") + "^land");
        Due.sentence("Terms I", "PEOPLE, at most 8");
        Due.is("seven", Due.desk(Due.clauses(7, "person # child;")).told(1), 7);
        Due.is("eight", Due.desk(Due.clauses(8, "person # child;")).told(1), 8);
        Due.badEstate(ROOM, Due.clauses(8, "person # child;") + "^person i child;");
        Due.badEstate(ROOM, Due.clauses(8, "person # child;") + "^person a child;");
        Due.sentence("Terms I", "THINGS, at most 8");
        Due.is("seven", Due.desk(Due.clauses(7, "thing # 1;")).told(2), 7);
        Due.is("eight", Due.desk(Due.clauses(8, "thing # 1;")).told(2), 8);
        Due.badEstate(ROOM, Due.clauses(8, "thing # 1;") + "^thing i 1;");
        Due.badEstate(ROOM, Due.clauses(8, "thing # 1;") + "^thing a 0;");
        Due.sentence("Terms I", "a WITNESS, at most 3");
        WhichWill desk = Due.desk(FOLK);
        Due.badPaper(desk, ROOM, "by pa; by pb; by pc; ^by pd;");
        Due.badPaper(desk, ROOM, "by pa; by pb; by pc; ^by pa;");
        Due.badPaper(desk, ROOM, "by pa; by pb; by pc; ^by x;");
        Due.is("two", Telling.paper(desk, "by pa; by ph;"), 0);
        Due.is("two", desk.look(0, 5), 129);
        Due.is("three", Telling.paper(desk, "by pa; by pd; by ph;"), 1);
        Due.is("three", desk.look(1, 5), 137);
        Due.sentence("Terms I", "at most 8 GIFTS together");
        desk = Due.desk(FOLK);
        String seven = "pay 1 to pa;give ta to pa;" + "pay 2 to pb;".repeat(5);
        Due.badPaper(desk, ROOM, seven + "give tb to pb;^give tc to pb;");
        Due.badPaper(desk, ROOM, seven + "give tb to pb;^pay 1 to pb;");
        Due.badPaper(desk, ROOM, "pay 1 to pa;".repeat(8) + "^pay 1 to pa;");
        Due.badPaper(desk, ROOM, Due.clauses(8, "give t# to pa;") + "^give ta to pa;");
        Due.is("seven", Telling.paper(desk, seven), 0);
        Due.is("seven", desk.look(0, 6), 7);
        Due.is("eight", Telling.paper(desk, seven + "give tb to pb;"), 1);
        Due.is("eight", desk.look(1, 6), 8);
        Due.is("eight", Telling.paper(desk, Due.clauses(8, "give t# to p#;")), 2);
        Due.is("none", Telling.paper(desk, ""), 3);
        Due.is("none", desk.look(3, 6), 0);
        Due.sentence("Terms I", "rest: to PEOPLE, at most 4");
        desk = Due.desk(FOLK);
        Due.badPaper(desk, ROOM, "rest to pa and pb and pc and pd ^and pe;");
        Due.badPaper(desk, ROOM, "rest to pa and pb and pc and pd ^and pa;");
        Due.badPaper(desk, SYNTAX, "rest to^;");
        Due.badPaper(desk, SYNTAX, "rest to pa and^;");
        Due.is("four", Telling.paper(desk, "rest to pe and pf and pg and ph;"), 0);
        Due.is("four", desk.look(0, 7), 240);
        Due.is("three", Telling.paper(desk, "rest to pe and pf and pg;"), 1);
        Due.is("three", desk.look(1, 7), 112);
        Due.is("one", Telling.paper(desk, "rest to ph;"), 2);
        Due.is("one", desk.look(2, 7), 128);
    }

    private static void estateNumbers() {
        Due.sentence("Terms I", "thing: its worth 1 .. 9999");
        Due.badEstate(BOUNDS, "thing t ^0;");
        Due.is("least", Due.desk("thing t 1;").told(20), 1);
        Due.is("greatest", Due.desk("thing t 9999;").told(20), 9999);
        Due.badEstate(BOUNDS, "thing t ^10000;");
        Due.sentence("Terms I", "seen 0 .. 3 (2)");
        Due.is("least", Due.desk("land a seen 0;").rule(0, 0), 0);
        Due.is("untold", Due.desk("land a;").rule(0, 0), 2);
        Due.is("greatest", Due.desk("land a seen 3;").rule(0, 0), 3);
        Due.badEstate(BOUNDS, "land a seen ^4;");
        Due.badEstate(BOUNDS, "land a seen ^99999;");
        Due.sentence("Terms I", "wife 0 .. 100 (50)");
        Due.is("least", Due.desk("land a wife 0;").rule(0, 9), 0);
        Due.is("untold", Due.desk("land a;").rule(0, 9), 50);
        Due.is("greatest", Due.desk("land a wife 100;").rule(0, 9), 100);
        Due.badEstate(BOUNDS, "land a wife ^101;");
        Due.sentence("Terms I", "force 0 .. 90 (0)");
        Due.is("least", Due.desk("land a force 0;").rule(0, 10), 0);
        Due.is("untold", Due.desk("land a;").rule(0, 10), 0);
        Due.is("greatest", Due.desk("land a force 90;").rule(0, 10), 90);
        Due.badEstate(BOUNDS, "land a force ^91;");
        Due.sentence("Terms I", "money, owed 0 .. 99999 (0)");
        for (int which = 0; which < 2; which++) {
            String word = which == 0 ? "money " : "owed ";
            Due.is("least", Due.desk(word + "0;").told(5 + which), 0);
            Due.is("untold", Due.desk("").told(5 + which), 0);
            Due.is("greatest", Due.desk(word + "99999;").told(5 + which), 99999);
            Due.is("the other is untold", Due.desk(word + "99999;").told(6 - which), 0);
            Due.badEstate(SYNTAX, word + "^100000;");
        }
        Due.sentence("Terms I", "house own, move own (what isn't told)");
        Due.is("house", Due.desk("land a move born;").rule(0, 11), 0);
        Due.is("move", Due.desk("land a house born;").rule(0, 12), 0);
        Due.badEstate(SYNTAX, "land a move ^there;");
        Due.badEstate(SYNTAX, "land a gain ^own;");
        Due.badEstate(SYNTAX, "land a gain^;");
    }

    private static void toldAhead() {
        Due.sentence("Terms I", "court, home, born: a LAND told ahead (the first one, if untold)");
        for (int which = 0; which < 3; which++) {
            String word = new String[] {"court ", "home ", "born "}[which];
            Due.is("untold", Due.desk("land a; land b;").told(7 + which), 0);
            Due.is("the last", Due.desk("land a; land b; " + word + "b;").told(7 + which), 1);
            Due.is("no land at all", Due.desk("person p child;").told(7 + which), NONE);
            Due.badEstate(UNKNOWN, "land a; " + word + "^b; land b;");
            Due.badEstate(UNKNOWN, word + "^a; land a;");
            Due.badEstate(TWICE, "land a; " + word + "a; ^" + word + "a;");
            Due.badEstate(SYNTAX, "land a; " + word + "^;");
        }
        Due.sentence("Terms I", "kin: a child of a PERSON told ahead");
        Due.desk("person a friend; person b kin a;");
        Due.badEstate(UNKNOWN, "person b kin ^a; person a friend;");
        Due.badEstate(UNKNOWN, "person a kin ^a;");
        Due.badEstate(UNKNOWN, "land a; thing a 1; person b kin ^a;");
        Due.sentence("Terms I", "in a LAND told ahead: a HOUSE there; else it moves");
        Due.is("moves", Due.desk("land a; thing t 1;").told(30), NONE);
        Due.is("stands", Due.desk("land a; land b; thing t 1 in b;").told(30), 1);
        Due.badEstate(UNKNOWN, "land a; thing t 1 in ^b; land b;");
        Due.badEstate(SYNTAX, "land a; thing t 1 in^;");
    }

    private static void paperNumbers() {
        Due.sentence("Terms I", "made: 0 .. 9999, the second not below the first (0, 9999)");
        WhichWill desk = Due.desk(FOLK);
        Due.badPaper(desk, BOUNDS, "made ^10000 10000;");
        Due.badPaper(desk, BOUNDS, "made 0 ^10000;");
        Due.badPaper(desk, BOUNDS, "made 9999 ^10000;");
        Due.badPaper(desk, BOUNDS, "made 5 ^4;");
        Due.badPaper(desk, BOUNDS, "made 9999 ^0;");
        Due.badPaper(desk, BOUNDS, "made 1 ^0;");
        Due.badPaper(desk, SYNTAX, "made 5^;");
        Due.badPaper(desk, SYNTAX, "made^;");
        int[][] days = {{0, 0}, {0, 9999}, {9999, 9999}, {5, 5}};
        for (int i = 0; i < 4; i++) {
            Due.is("made", Telling.paper(desk, "made " + days[i][0] + " " + days[i][1] + ";"), i);
            Due.is("first", desk.look(i, 0), days[i][0]);
            Due.is("last", desk.look(i, 1), days[i][1]);
        }
        desk = Due.desk(FOLK, "");
        Due.is("first untold", desk.look(0, 0), 0);
        Due.is("last untold", desk.look(0, 1), 9999);
        Due.is("one behind the other", Telling.paper(desk, "made 5 6;"), 1);
        Due.is("untold anew", Telling.paper(desk, ""), 2);
        Due.is("first untold", desk.look(2, 0), 0);
        Due.is("last untold", desk.look(2, 1), 9999);
        Due.sentence("Terms I", "pay: 1 .. 99999");
        desk = Due.desk("land a seen 0; person pa friend; money 99999;");
        Due.badPaper(desk, BOUNDS, "pay ^0 to pa;");
        Due.badPaper(desk, BOUNDS, "pay ^00000 to pa;");
        Due.badPaper(desk, SYNTAX, "pay ^100000 to pa;");
        Due.is("least", Telling.paper(desk, "signed; pay 1 to pa if fact 0; pay 99999 to pa if fact 1;"), 0);
        Due.is("least", desk.paid(0, 1), 1);
        Due.is("greatest", desk.paid(0, 2), 99999);
        Due.sentence("Terms I", "fact 0 .. 2");
        Due.badPaper(desk, BOUNDS, "pay 1 to pa if fact ^3;");
        Due.badPaper(desk, BOUNDS, "pay 1 to pa if fact ^99999 not;");
        Due.badPaper(desk, SYNTAX, "pay 1 to pa if fact^;");
        Due.badPaper(desk, SYNTAX, "pay 1 to pa if fact ^not;");
        for (int fact = 0; fact < 3; fact++) {
            desk = Due.desk("land a seen 0; person pa friend; money 9;", "signed; pay 9 to pa if fact " + fact + " not;");
            Due.is("it is not so", desk.paid(0, 7 & ~(1 << fact)), 9);
            Due.is("it alone is so", desk.paid(0, 1 << fact), 0);
        }
        Due.sentence("Terms I", "\"fact\" there is no name");
        desk = Due.desk("land a; person fact friend; money 9;");
        Due.badPaper(desk, SYNTAX, "pay 1 to fact if fact ^dead;");
        Due.is("a name elsewhere", Telling.paper(desk, "pay 1 to fact if fact 0; by fact; rest to fact;"), 0);
    }

    private static void papersToldAhead() {
        Due.sentence("Terms I", "paper N, again N, with N: the number of a PAPER told ahead");
        for (int papers = 0; papers < 4; papers++) {
            for (String word : new String[] {"undo paper ", "again ", "with "}) {
                WhichWill desk = Due.desk(FOLK);
                for (int i = 0; i < papers; i++) {
                    Telling.paper(desk, "");
                }
                Due.badPaper(desk, BOUNDS, word + "^" + papers + ";");
                Due.badPaper(desk, BOUNDS, word + "^" + (papers + 1) + ";");
                Due.badPaper(desk, BOUNDS, word + "^32;");
                Due.badPaper(desk, BOUNDS, word + "^99999;");
                Due.badPaper(desk, SYNTAX, word + "^;");
                if (papers > 0) {
                    Due.is(word, Telling.paper(desk, word + (papers - 1) + ";"), papers);
                    int what = word.equals("with ") ? 11 : word.equals("again ") ? 10 : 9;
                    Due.is("told", desk.look(papers, what), what == 11 ? papers - 1 : 1 << papers - 1);
                }
            }
        }
        Due.sentence("Terms I", "undo, again: any number of them");
        WhichWill desk = Due.desk(FOLK, "", "", "");
        Due.is("180 clauses in 900 bytes", Telling.paper(desk, "undo;".repeat(180)), 3);
        Due.is("it undoes all", desk.look(3, 8), 1);
        desk = Due.desk(FOLK, "", "", "", "undo;undo;undo paper 0;undo paper 2;undo paper 1;again 2;again 1;again 0;undo;");
        Due.is("undoes", desk.look(3, 9), 7);
        Due.is("wakes", desk.look(3, 10), 7);
        Due.is("undoes all", desk.look(3, 8), 1);
        Due.is("none of them", Due.desk(FOLK, "").look(0, 8), 0);
    }

    private static void twice() {
        Due.sentence("Terms I", "TWICE: a LAND's (PERSON's, THING's) name that one has");
        Due.badEstate(TWICE, "land a; land b; land ^a;");
        Due.badEstate(TWICE, "person a child; person ^a child;");
        Due.badEstate(TWICE, "thing a 1; thing ^a 0;");
        Due.desk("land a; person a wife; thing a 1 in a;");
        Due.desk("land a; land aa; land b;");
        Due.sentence("Terms I", "a second wife");
        Due.badEstate(TWICE, "person a wife; person b ^wife;");
        Due.badEstate(TWICE, "person a wife dead; person b child; person wife ^wife;");
        Due.is("one", Due.desk("person a child; person b wife;").told(10), 1);
        Due.is("none", Due.desk("person a child;").told(10), NONE);
        Due.sentence("Terms I", "court, home, born, money, owed, made, hand, pencil, signed, rest, with again");
        Due.badEstate(TWICE, "money 0; ^money 0;");
        Due.badEstate(TWICE, "owed 0; money 0; ^owed;");
        WhichWill desk = Due.desk(FOLK, "", "");
        for (String clause : new String[] {"made 0 9999", "hand", "pencil", "signed", "rest to pa", "with 0"}) {
            Due.badPaper(desk, TWICE, clause + "; by pa; ^" + clause + ";");
            Due.badPaper(desk, TWICE, clause + ";^" + clause.replaceFirst(" .*", ""));
        }
        Due.is("each once", Telling.paper(desk, "with 0; rest to pa; signed; pencil; hand; made 0 9999;"), 2);
        Due.sentence("Terms I", "a RULE again in one land");
        String rules = "seen 2,hand,pencil,gain void,wed,part,tear,wake,lost,wife 50,force 0,house own,move own";
        for (String rule : rules.split(",")) {
            Due.badEstate(TWICE, "land b " + rule + "; land a " + rule + " ^" + rule + ";");
        }
        Due.desk("land a " + rules.replace(',', ' ') + "; land b " + rules.replace(',', ' ') + ";");
        Due.badEstate(TWICE, "land a " + rules.replace(',', ' ') + " ^seen 9;");
        Due.sentence("Terms I", "a WITNESS, one behind rest, a THING given, a PAPER behind undo, again, told so in that PAPER");
        desk = Due.desk(FOLK, "", "");
        Due.badPaper(desk, TWICE, "by pa; by pb; by ^pa;");
        Due.badPaper(desk, TWICE, "rest to pa and ^pa;");
        Due.badPaper(desk, TWICE, "rest to pa and pb and pc and ^pb;");
        Due.badPaper(desk, TWICE, "give ta to pa if fact 0; give ^ta to pb if fact 0 not;");
        Due.badPaper(desk, TWICE, "undo paper 1; undo paper 0; undo paper ^1;");
        Due.badPaper(desk, TWICE, "again 0; again 1; again ^0;");
        Due.badPaper(desk, BOUNDS, "undo paper 1; undo paper ^2;");
        Due.is("told so once", Telling.paper(desk, "by pa; rest to pa; give ta to pa; pay 1 to pa; pay 1 to pa; undo paper 1; again 1; with 1;"), 2);
        Due.is("and in another", Telling.paper(desk, "by pa; rest to pa; give ta to pa; undo paper 1; again 1; with 1;"), 3);
    }

    private static void faults() {
        Due.sentence("Terms I", "PLACE (a TOKEN's first byte; the text's length at its end)");
        Due.badEstate(SYNTAX, "land^");
        Due.badEstate(SYNTAX, "land \n ^");
        Due.badEstate(SYNTAX, "land a^");
        Due.badEstate(SYNTAX, "money 1 ^");
        Due.badEstate(SYNTAX, "money 1" + " ".repeat(893) + "^");
        Due.badEstate(SYNTAX, "^x");
        Due.badEstate(SYNTAX, " ".repeat(899) + "^x");
        Due.badEstate(UNKNOWN, "court \n ^abcdefgh;");
        Due.sentence("Terms I", "the first come to as TOKENS are read one by one");
        Due.badEstate(BOUNDS, "thing t ^0 in x; land A");
        Due.badEstate(UNKNOWN, "court ^x; owed 100000;");
        Due.badEstate(TWICE, "owed 1; ^owed 100000;");
        Due.badEstate(ROOM, Due.clauses(4, "land #;") + "^land \u0000");
        Due.sentence("Terms I", "of one TOKEN the least KIND");
        Due.badEstate(SYNTAX, "thing t ^100000;");
        Due.badEstate(SYNTAX, "land a; court ^abcdefghi;");
        WhichWill desk = Due.desk(FOLK, "");
        Due.badPaper(desk, SYNTAX, "again 0; again ^000000;");
        Due.badPaper(desk, SYNTAX, "by pa; by ^7;");
        Due.badPaper(desk, SYNTAX, "pay ^pa to pa;");
        Due.sentence("Terms I", "UNKNOWN: a W that should be the name of a LAND, PERSON, THING and is none");
        Due.badPaper(desk, UNKNOWN, "by ^ta;");
        Due.badPaper(desk, UNKNOWN, "give ^pa to pa;");
        Due.badPaper(desk, UNKNOWN, "give ta to ^a;");
        Due.badPaper(desk, UNKNOWN, "pay 1 to ^ta;");
        Due.badPaper(desk, UNKNOWN, "pay 1 to pa if ^ta dead;");
        Due.badPaper(desk, UNKNOWN, "rest to ^a;");
        Due.badPaper(desk, UNKNOWN, "rest to pa and ^pi;");
        Due.badPaper(Due.desk(""), UNKNOWN, "by ^pa;");
        Due.badPaper(new WhichWill(), UNKNOWN, "rest to ^pa;");
        Due.sentence("Promise 6", "KIND, 0 without (and ahead of any), PLACE (NONE). NONE for another what");
        desk = new WhichWill();
        Due.is("kind ahead of any", desk.fault(0), 0);
        Due.is("place ahead of any", desk.fault(1), NONE);
        Telling.estate(desk, "thing t 0;");
        Due.is("kind", desk.fault(0), BOUNDS);
        Due.is("place", desk.fault(1), 8);
        for (int what : new int[] {-1, 2, 3, 32, Integer.MIN_VALUE, Integer.MAX_VALUE}) {
            Due.is("fault " + what, desk.fault(what), NONE);
        }
        Telling.estate(desk, "x");
        Due.is("place 0", desk.fault(1), 0);
        Telling.paper(desk, "");
        Due.is("kind without", desk.fault(0), 0);
        Due.is("place without", desk.fault(1), NONE);
        Due.sentence("Promise 6", "Of the latest estate(), or paper() that was not FULL");
        desk = Due.desk(FOLK, "", "", "");
        Due.badPaper(desk, UNKNOWN, "by ^x;");
        Telling.settle(desk, "y");
        Due.is("settle has none", desk.fault(0), UNKNOWN);
        Telling.paper(desk, "signed;");
        Due.is("none", desk.fault(0), 0);
        Due.is("FULL", Telling.paper(desk, "zz"), FULL);
        Due.is("none still", desk.fault(0), 0);
        Due.is("none still", desk.fault(1), NONE);
        Telling.estate(desk, "land a; x");
        Due.is("FULL", Telling.paper(desk, "signed;"), FULL);
        Due.is("the estate's", desk.fault(0), SYNTAX);
        Due.is("the estate's", desk.fault(1), 8);
    }

    private static void estates() {
        Due.sentence("Promise 4", "how many clauses");
        String most = Due.clauses(4, "land #;") + "court d;home c;born b;money 1;owed 1;" + Due.clauses(8, "person # child;")
                + Due.clauses(8, "thing # 1;");
        Due.is("none", new WhichWill().estate(), 0);
        Due.is("as many as can be", Telling.estate(new WhichWill(), most), 25);
        Due.is("all of 900 bytes", Telling.estate(new WhichWill(), most + " ".repeat(900 - most.length())), 25);
        Due.sentence("Promise 4", "NONE with a FAULT (it stays). ITEMS and STORIES are none then");
        WhichWill desk = Due.desk(most, "signed;");
        desk.event(0, 0, 0, 0, NONE);
        desk.says(0, 0, 1);
        Due.is("a FAULT in the last clause", Telling.estate(desk, "land z; money 5; money 5;"), NONE);
        Due.is("clauses", desk.count(0), 25);
        Due.is("lands", desk.told(0), 4);
        Due.is("money", desk.told(5), 1);
        Due.is("court", desk.told(7), 3);
        Due.is("items", desk.count(2), 2);
        Due.is("stories", desk.count(1), 1);
        Due.is("names", Telling.paper(desk, "by h; give h to h;"), 1);
        Due.is("the empty estate", Telling.estate(desk, ""), 0);
        for (int what = 0; what <= 6; what++) {
            Due.is("told " + what, desk.told(what), 0);
        }
        for (int what : new int[] {7, 8, 9, 10, 20, 27, 30, 40, 47}) {
            Due.is("told " + what, desk.told(what), NONE);
        }
        Due.is("clauses", desk.count(0), 0);
        Due.is("stories", desk.count(1), 0);
        Due.is("items", desk.count(2), 0);
        Due.is("orders", desk.orders(), 1);
        Due.is("no rule", desk.rule(0, 0), RANGE);
        Due.is("no look", desk.look(0, 0), RANGE);
        Due.badPaper(desk, UNKNOWN, "by ^h;");
        Due.sentence("Promise 5", "its number; FULL: there are 4, or 6 ITEMS (THE TAPE is emptied, fault() stays)");
        desk = Due.desk(FOLK, "", "", "");
        Due.is("fourth", Telling.paper(desk, ""), 3);
        Due.is("fifth", Telling.paper(desk, ""), FULL);
        Due.is("fifth with a FAULT", Telling.paper(desk, "x"), FULL);
        Due.is("no FAULT", desk.fault(0), 0);
        desk = threeAndThree();
        Due.is("seventh ITEM", Telling.paper(desk, "x"), FULL);
        Due.is("no FAULT", desk.fault(0), 0);
        Due.is("papers", desk.told(3), 3);
        desk = Due.desk(FOLK, "", "");
        for (int i = 0; i < 3; i++) {
            desk.event(1, 0, 0, 0, NONE);
        }
        Due.is("sixth ITEM with a FAULT", Telling.paper(desk, "x"), NONE);
        Due.is("sixth ITEM", Telling.paper(desk, ""), 2);
        Due.is("seventh ITEM", Telling.paper(desk, ""), FULL);
    }

    public static void main(String[] args) {
        tape();
        end();
        reading();
        tokens();
        rooms();
        estateNumbers();
        toldAhead();
        paperNumbers();
        papersToldAhead();
        twice();
        faults();
        estates();
        Due.end();
    }
}
