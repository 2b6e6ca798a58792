/** Answers held against the sentence of the document that asks for them. */
final class Due {
    static final int NONE = -1;
    static final int RANGE = -2;
    static final int FULL = -3;
    static final int STATE = -4;
    private static String sentence = "";
    private static int sentences = 0;
    private static int wrong = 0;

    private Due() {
    }

    /** Which sentence all that comes up to the next one is about. */
    static void sentence(String where, String words) {
        sentence = where + " \"" + words + "\"";
        sentences++;
    }

    static void is(String call, long got, long want) {
        if (got != want) {
            wrong++;
            System.out.println(sentence + ": " + call + " answered " + got + ", due is " + want);
        }
    }

    /** A desk with an ESTATE and PAPERS, none of which has a FAULT. */
    static WhichWill desk(String estate, String... papers) {
        WhichWill desk = new WhichWill();
        int clauses = Telling.estate(desk, estate);
        is("clauses of [" + estate + "]", clauses, estate.chars().filter(c -> c == ';').count());
        for (int i = 0; i < papers.length; i++) {
            is("paper [" + papers[i] + "]", Telling.paper(desk, papers[i]), i);
        }
        return desk;
    }

    /** An estate's text whose FAULT stands where it has a '^'. */
    static void badEstate(int kind, String marked) {
        WhichWill desk = new WhichWill();
        is("estate [" + marked + "]", Telling.estate(desk, marked.replace("^", "")), NONE);
        fault(desk, kind, marked);
    }

    /** A paper's text, told to a desk, whose FAULT stands where it has a '^'. */
    static void badPaper(WhichWill desk, int kind, String marked) {
        int papers = desk.told(3);
        is("paper [" + marked + "]", Telling.paper(desk, marked.replace("^", "")), NONE);
        fault(desk, kind, marked);
        is("papers behind [" + marked + "]", desk.told(3), papers);
    }

    private static void fault(WhichWill desk, int kind, String marked) {
        is("kind of [" + marked + "]", desk.fault(0), kind);
        is("place of [" + marked + "]", desk.fault(1), marked.indexOf('^'));
    }

    /** A clause for each of the first letters, which stand for '#'. */
    static String clauses(int many, String clause) {
        StringBuilder text = new StringBuilder();
        for (int i = 0; i < many; i++) {
            text.append(clause.replace('#', (char) ('a' + i)));
        }
        return text.toString();
    }

    /** Ends the test, with 1 if an answer was not as due. */
    static void end() {
        System.out.println(sentences + " sentences, " + wrong + " answers not as due");
        if (wrong != 0) {
            System.exit(1);
        }
    }
}
