import java.util.ArrayList;
import java.util.Arrays;
import java.util.HashMap;
import java.util.HashSet;
import java.util.LinkedHashMap;
import java.util.List;
import java.util.Map;
import java.util.Random;
import java.util.Set;
import java.util.TreeMap;

/**
 * Random runs against a slow model that was written from the document apart from the class:
 * maps and lists, exceptions for FAULTS, every WAY worked out anew for every answer.
 */
public final class ModelTest {
    static int wrong = 0;
    static long compared = 0;

    // ------------------------------------------------------------------ the model

    static final class Fault extends Exception {
        static final long serialVersionUID = 1;
        final int kind;
        final int place;
        Fault(int kind, int place) {
            super("fault");
            this.kind = kind;
            this.place = place;
        }
    }

    record Token(String text, int place) {
        boolean isWord() { return text.matches("[a-z]{1,8}"); }
        boolean isNumber() { return text.matches("[0-9]{1,5}"); }
    }

    static final class Tokens {
        final List<Token> all = new ArrayList<>();
        int at = 0;
        Tokens(String s) {
            java.util.regex.Matcher m = java.util.regex.Pattern
                    .compile("[a-z]+|[0-9]+|[^ \\n]", java.util.regex.Pattern.DOTALL).matcher(s);
            while (m.find()) all.add(new Token(m.group(), m.start()));
            all.add(new Token("", s.length()));
        }
        Token see() { return all.get(at); }
        boolean atEnd() { return see().text().isEmpty(); }
        boolean is(String w) { return see().text().equals(w); }
        Fault fault(int kind) { return new Fault(kind, see().place()); }
        boolean take(String w) {
            if (!is(w)) return false;
            at++;
            return true;
        }
        String oneOf(String... ws) throws Fault {
            for (String w : ws) if (take(w)) return w;
            throw fault(1);
        }
        void need(String w) throws Fault { oneOf(w); }
        int n(int lo, int hi) throws Fault {
            if (!see().isNumber()) throw fault(1);
            int v = Integer.parseInt(see().text());
            if (v < lo || v > hi) throw fault(2);
            at++;
            return v;
        }
        String newName(List<String> names) throws Fault {
            if (!see().isWord()) throw fault(1);
            if (names.contains(see().text())) throw fault(3);
            return all.get(at++).text();
        }
        int name(List<String> names, Set<Integer> not) throws Fault {
            if (!see().isWord()) throw fault(1);
            int i = names.indexOf(see().text());
            if (not.contains(i)) throw fault(3);
            if (i < 0) throw fault(5);
            at++;
            return i;
        }
        int paper(int papers, Set<Integer> not) throws Fault {
            int before = at;
            int v = n(0, papers - 1);
            if (not.contains(v)) { at = before; throw fault(3); }
            return v;
        }
    }

    static final List<String> RULES = List.of("seen", "hand", "pencil", "gain", "wed", "part", "tear",
            "wake", "lost", "wife", "force", "house", "move");
    static final List<String> NAMING = List.of("own", "there", "home", "born");
    static final Set<Integer> NO = Set.of();

    static final class E {
        List<String> lands = new ArrayList<>(), people = new ArrayList<>(), things = new ArrayList<>();
        List<int[]> rules = new ArrayList<>();
        List<String> role = new ArrayList<>();
        List<Integer> parent = new ArrayList<>();
        Set<Integer> dead = new HashSet<>();
        List<Integer> worth = new ArrayList<>(), place = new ArrayList<>();
        Map<String, Integer> once = new HashMap<>();
        int clauses = 0;

        static E read(String s) throws Fault {
            E e = new E();
            Tokens t = new Tokens(s);
            while (!t.atEnd()) {
                e.clause(t);
                t.need(";");
                e.clauses++;
            }
            return e;
        }

        void clause(Tokens t) throws Fault {
            String w = t.see().text();
            if (List.of("court", "home", "born", "money", "owed").contains(w)) {
                if (once.containsKey(w)) throw t.fault(3);
                t.at++;
                boolean sum = w.equals("money") || w.equals("owed");
                once.put(w, sum ? t.n(0, 99999) : t.name(lands, NO));
            } else if (w.equals("land")) {
                land(t);
            } else if (w.equals("person")) {
                if (people.size() == 8) throw t.fault(4);
                t.at++;
                String name = t.newName(people);
                if (t.is("wife") && role.contains("wife")) throw t.fault(3);
                String r = t.oneOf("wife", "child", "kin", "friend");
                parent.add(r.equals("kin") ? t.name(people, NO) : -1);
                if (t.take("dead")) dead.add(people.size());
                role.add(r);
                people.add(name);
            } else if (w.equals("thing")) {
                if (things.size() == 8) throw t.fault(4);
                t.at++;
                things.add(t.newName(things));
                worth.add(t.n(1, 9999));
                place.add(t.take("in") ? t.name(lands, NO) : -1);
            } else {
                throw t.fault(1);
            }
        }

        void land(Tokens t) throws Fault {
            if (lands.size() == 4) throw t.fault(4);
            t.at++;
            lands.add(t.newName(lands));
            int[] r = new int[13];
            r[0] = 2;
            r[9] = 50;
            rules.add(r);
            Set<Integer> had = new HashSet<>();
            while (!t.is(";")) {
                int k = RULES.indexOf(t.see().text());
                if (k < 0) throw t.fault(1);
                if (!had.add(k)) throw t.fault(3);
                t.at++;
                if (k == 0) r[k] = t.n(0, 3);
                else if (k == 9) r[k] = t.n(0, 100);
                else if (k == 10) r[k] = t.n(0, 90);
                else if (k == 3) r[k] = t.oneOf("void", "gift").equals("void") ? 1 : 2;
                else if (k == 11) r[k] = NAMING.indexOf(t.oneOf("own", "there", "home", "born"));
                else if (k == 12) r[k] = NAMING.indexOf(t.oneOf("own", "home", "born"));
                else r[k] = 1;
            }
        }

        int seat(String which) { return lands.isEmpty() ? -1 : once.getOrDefault(which, 0); }
        int amount(String which) { return once.getOrDefault(which, 0); }
        int there() { return Math.max(0, amount("money") - amount("owed")); }
        int wife() { return role.indexOf("wife"); }

        // {law, ring}
        int[] law(int thing) {
            int in = thing < 0 ? -1 : place.get(thing);
            List<Integer> met = new ArrayList<>();
            int at = seat("court");
            while (true) {
                met.add(at);
                int r = rules.get(at)[in < 0 ? 12 : 11];
                int to = r == 0 ? at : r == 1 ? in : seat(NAMING.get(r));
                if (to == at) return new int[] {at, 0};
                if (met.contains(to)) return new int[] {to, 1};
                at = to;
            }
        }

        boolean isStem(int p) {
            if (!dead.contains(p)) return true;
            return !stemsOf(p).isEmpty();
        }
        List<Integer> stemsOf(int p) {
            List<Integer> list = new ArrayList<>();
            for (int q = 0; q < people.size(); q++) {
                boolean under = p < 0 ? role.get(q).equals("child") : parent.get(q) == p;
                if (under && isStem(q)) list.add(q);
            }
            return list;
        }
    }

    static final class Gift { int thing = -1, pay = 0, to; String iff = ""; int which = -1; }

    static final class P {
        int first = 0, last = 9999, with = -1;
        boolean undo;
        Set<String> once = new HashSet<>();
        Set<Integer> by = new HashSet<>(), rest = new HashSet<>(), undoes = new HashSet<>(), wakes = new HashSet<>();
        Set<Integer> given = new HashSet<>();
        List<Gift> gifts = new ArrayList<>();

        static P read(String s, E e, int papers) throws Fault {
            P p = new P();
            Tokens t = new Tokens(s);
            while (!t.atEnd()) {
                p.clause(t, e, papers);
                t.need(";");
            }
            return p;
        }

        void clause(Tokens t, E e, int papers) throws Fault {
            String w = t.see().text();
            if (List.of("made", "hand", "pencil", "signed", "rest", "with").contains(w) && !once.add(w)) throw t.fault(3);
            if (w.equals("by") && by.size() == 3) throw t.fault(4);
            if ((w.equals("give") || w.equals("pay")) && gifts.size() == 8) throw t.fault(4);
            t.oneOf("made", "hand", "pencil", "signed", "by", "give", "pay", "rest", "undo", "again", "with");
            switch (w) {
                case "made" -> {
                    first = t.n(0, 9999);
                    last = t.n(first, 9999);
                }
                case "by" -> by.add(t.name(e.people, by));
                case "give", "pay" -> gift(t, e, w.equals("give"));
                case "rest" -> {
                    t.need("to");
                    rest.add(t.name(e.people, rest));
                    while (t.is("and")) {
                        if (rest.size() == 4) throw t.fault(4);
                        t.at++;
                        rest.add(t.name(e.people, rest));
                    }
                }
                case "undo" -> {
                    if (t.take("paper")) undoes.add(t.paper(papers, undoes));
                    else undo = true;
                }
                case "again" -> wakes.add(t.paper(papers, wakes));
                case "with" -> with = t.n(0, papers - 1);
                default -> { }
            }
        }

        void gift(Tokens t, E e, boolean give) throws Fault {
            Gift g = new Gift();
            if (give) {
                g.thing = t.name(e.things, given);
                given.add(g.thing);
            } else {
                g.pay = t.n(1, 99999);
            }
            t.need("to");
            g.to = t.name(e.people, NO);
            if (t.take("if")) {
                if (t.take("fact")) {
                    g.which = t.n(0, 2);
                    g.iff = t.take("not") ? "not" : "so";
                } else {
                    g.which = t.name(e.people, NO);
                    g.iff = t.oneOf("dead", "alive");
                }
            }
            gifts.add(g);
        }

        boolean gains(int p) {
            return rest.contains(p) || gifts.stream().anyMatch(g -> g.to == p);
        }

        boolean good(int[] r, int changes) {
            if (!once.contains("signed") && (changes & 1) == 0) return false;
            if (once.contains("pencil") && (changes & 4) == 0 && r[2] == 0) return false;
            if (r[1] == 1 && (once.contains("hand") || (changes & 2) != 0)) return true;
            long seen = by.stream().filter(p -> r[3] != 1 || !gains(p)).count() + ((changes & 8) != 0 ? 1 : 0);
            return seen >= r[0];
        }
    }

    record Ev(int kind, int paper, int first, int last, int fact) { }
    record Story(int who, int fact, int so, Object a, Object b) { }

    static final class State {
        Set<Integer> stands = new HashSet<>();
        Map<Integer, Integer> undone = new HashMap<>();
        Set<Integer> parted = new HashSet<>();
        Set<Integer> counts = new HashSet<>();
    }

    static final class Model {
        E e = new E();
        List<P> papers = new ArrayList<>();
        List<Ev> events = new ArrayList<>();
        List<Story> stories = new ArrayList<>();
        List<List<Integer>> orders = List.of(List.of());
        List<int[]> sums;
        int faultKind = 0, faultPlace = -1;

        void estate(String s) {
            faultKind = 0;
            faultPlace = -1;
            try {
                e = E.read(s);
                papers = new ArrayList<>();
                events = new ArrayList<>();
                stories = new ArrayList<>();
                changed();
            } catch (Fault f) {
                faultKind = f.kind;
                faultPlace = f.place;
            }
        }

        int paper(String s) {
            if (papers.size() == 4 || papers.size() + events.size() == 6) return -3;
            faultKind = 0;
            faultPlace = -1;
            try {
                papers.add(P.read(s, e, papers.size()));
                changed();
                return papers.size() - 1;
            } catch (Fault f) {
                faultKind = f.kind;
                faultPlace = f.place;
                return -1;
            }
        }

        void changed() {
            orders = new ArrayList<>();
            rows(new ArrayList<>());
            sums = null;
        }

        int items() { return papers.size() + events.size(); }
        int ways() { return e.lands.isEmpty() ? 0 : 8 * orders.size(); }
        int first(int i) { return i < papers.size() ? papers.get(i).first : events.get(i - papers.size()).first; }
        int last(int i) { return i < papers.size() ? papers.get(i).last : events.get(i - papers.size()).last; }

        void rows(List<Integer> row) {
            // A row can be if nobody has to come later than a follower's last day.
            for (int i = 0; i < row.size(); i++)
                for (int j = i + 1; j < row.size(); j++)
                    if (first(row.get(i)) > last(row.get(j))) return;
            if (row.size() == items()) {
                orders.add(new ArrayList<>(row));
                return;
            }
            for (int i = 0; i < items(); i++) {
                if (row.contains(i)) continue;
                row.add(i);
                rows(row);
                row.remove(row.size() - 1);
            }
        }

        State run(List<Integer> row, int facts, int land, int mended, int changes) {
            State s = new State();
            int[] r = e.rules.get(land);
            List<Integer> came = new ArrayList<>();
            for (int item : row) {
                if (item < papers.size()) {
                    came.add(item);
                    P p = papers.get(item);
                    if (!p.good(r, item == mended ? changes : 0)) continue;
                    s.stands.add(item);
                    s.undone.remove(item);
                    boolean all = p.undo || item == mended && (changes & 16) != 0;
                    for (int q = 0; q < papers.size(); q++) {
                        if (q != item && s.stands.contains(q) && (all || p.undoes.contains(q))) {
                            s.stands.remove(q);
                            s.undone.put(q, item);
                        }
                    }
                    for (int q : p.wakes) {
                        if (came.contains(q) && papers.get(q).good(r, q == mended ? changes : 0)) {
                            s.stands.add(q);
                            s.undone.remove(q);
                        }
                    }
                    continue;
                }
                Ev ev = events.get(item - papers.size());
                if (ev.fact >= 0 && (facts >> ev.fact & 1) == 0) continue;
                if (ev.kind == 0 && r[4] == 1) {
                    for (int q : new ArrayList<>(s.stands)) s.undone.put(q, item);
                    s.stands.clear();
                }
                if (ev.kind == 1 && r[5] == 1) s.parted.addAll(s.stands);
                boolean takes = ev.kind == 2 || ev.kind == 3 && r[6] == 1 || ev.kind == 4 && r[8] == 1;
                if (takes && s.stands.contains(ev.paper)) {
                    s.stands.remove(ev.paper);
                    s.undone.put(ev.paper, item);
                    if (r[7] == 1) {
                        for (int q = 0; q < papers.size(); q++) {
                            if (Integer.valueOf(ev.paper).equals(s.undone.get(q))) {
                                s.undone.remove(q);
                                s.stands.add(q);
                            }
                        }
                    }
                }
            }
            for (int q = 0; q < papers.size(); q++) {
                int at = q;
                boolean ok = true;
                while (at >= 0) {
                    ok &= s.stands.contains(at);
                    at = papers.get(at).with;
                }
                if (ok) s.counts.add(q);
            }
            return s;
        }

        boolean isVoid(State s, int land, int paper, int who) {
            return e.rules.get(land)[3] == 2 && papers.get(paper).by.contains(who)
                    || s.parted.contains(paper) && who == e.wife();
        }

        boolean holds(State s, int land, int paper, Gift g, int facts) {
            if (!s.counts.contains(paper) || isVoid(s, land, paper, g.to) || e.dead.contains(g.to)) return false;
            return switch (g.iff) {
                case "dead" -> e.dead.contains(g.which);
                case "alive" -> !e.dead.contains(g.which);
                case "so" -> (facts >> g.which & 1) == 1;
                case "not" -> (facts >> g.which & 1) == 0;
                default -> true;
            };
        }

        void equally(List<Integer> who, int amount, Map<Integer, Integer> got) {
            for (int i = 0; i < who.size(); i++) {
                int part = amount / who.size() + (i < amount % who.size() ? 1 : 0);
                int p = who.get(i);
                if (e.dead.contains(p)) equally(e.stemsOf(p), part, got);
                else got.merge(p, part, Integer::sum);
            }
        }

        int left(State s, int land, List<Integer> row, int amount, Map<Integer, Integer> got) {
            for (int i = row.size() - 1; i >= 0; i--) {
                int q = row.get(i);
                if (q >= papers.size() || !s.counts.contains(q)) continue;
                List<Integer> heirs = new ArrayList<>();
                for (int p = 0; p < e.people.size(); p++)
                    if (papers.get(q).rest.contains(p) && !e.dead.contains(p) && !isVoid(s, land, q, p)) heirs.add(p);
                if (heirs.isEmpty()) continue;
                equally(heirs, amount, got);
                return 1;
            }
            List<Integer> stems = e.stemsOf(-1);
            int wife = e.wife();
            boolean wifeLives = wife >= 0 && !e.dead.contains(wife);
            if (!wifeLives && stems.isEmpty()) return 3;
            int hers = !wifeLives ? 0 : stems.isEmpty() ? amount : amount * e.rules.get(land)[9] / 100;
            if (wifeLives) got.put(wife, hers);
            if (!stems.isEmpty()) equally(stems, amount - hers, got);
            return 2;
        }

        int thing(int t, List<Integer> row, int facts, Map<Integer, Integer> got, int mended, int changes) {
            int land = e.law(t)[0];
            State s = run(row, facts, land, mended, changes);
            for (int i = row.size() - 1; i >= 0; i--) {
                int q = row.get(i);
                if (q >= papers.size()) continue;
                for (Gift g : papers.get(q).gifts) {
                    if (g.thing == t && holds(s, land, q, g, facts)) {
                        got.put(g.to, e.worth.get(t));
                        return 0;
                    }
                }
            }
            return left(s, land, row, e.worth.get(t), got);
        }

        // paid into the first, what is left into the second
        void money(List<Integer> row, int facts, Map<Integer, Integer> paid, Map<Integer, Integer> got) {
            int land = e.law(-1)[0];
            State s = run(row, facts, land, -1, 0);
            List<Gift> pays = new ArrayList<>();
            for (int q : row) {
                if (q >= papers.size()) continue;
                for (Gift g : papers.get(q).gifts) if (g.pay > 0 && holds(s, land, q, g, facts)) pays.add(g);
            }
            long all = pays.stream().mapToLong(g -> g.pay).sum();
            long there = e.there();
            List<Long> cut = new ArrayList<>();
            for (Gift g : pays) cut.add(all > there ? g.pay * there / all : g.pay);
            long over = all > there ? there - cut.stream().mapToLong(x -> x).sum() : 0;
            for (int i = 0; i < pays.size(); i++) paid.merge(pays.get(i).to, (int) (cut.get(i) + (i < over ? 1 : 0)), Integer::sum);
            left(s, land, row, (int) Math.max(0, there - all), got);
        }

        int[] sums(int way) {
            int[] sum = new int[e.people.size()];
            List<Integer> row = orders.get(way / 8);
            List<Map<Integer, Integer>> all = new ArrayList<>();
            for (int t = 0; t < e.things.size(); t++) {
                all.add(new TreeMap<>());
                thing(t, row, way % 8, all.get(t), -1, 0);
            }
            Map<Integer, Integer> paid = new TreeMap<>(), got = new TreeMap<>();
            money(row, way % 8, paid, got);
            all.add(paid);
            all.add(got);
            for (Map<Integer, Integer> m : all) m.forEach((p, v) -> sum[p] += v);
            return sum;
        }

        List<int[]> allSums() {
            if (sums == null) {
                sums = new ArrayList<>();
                for (int w = 0; w < ways(); w++) sums.add(sums(w));
            }
            return sums;
        }

        boolean ahead(int order, int a, int b) { return orders.get(order).indexOf(a) < orders.get(order).indexOf(b); }

        int itemOf(Object o) {
            for (int i = 0; i < papers.size(); i++) if (papers.get(i) == o) return i;
            for (int i = 0; i < events.size(); i++) if (events.get(i) == o) return papers.size() + i;
            throw new IllegalStateException();
        }
        Object itemAt(int i) { return i < papers.size() ? papers.get(i) : events.get(i - papers.size()); }

        boolean isTrue(Story s, int way) {
            if (s.fact >= 0) return (way >> s.fact & 1) == s.so;
            return ahead(way / 8, itemOf(s.a), itemOf(s.b));
        }

        int outcomes(List<Integer> ways) {
            Set<String> rows = new HashSet<>();
            for (int w : ways) rows.add(Arrays.toString(allSums().get(w)));
            return rows.size();
        }

        int ask() {
            if (ways() == 0) return -1;
            Map<Integer, int[]> q = new LinkedHashMap<>();
            for (int f = 0; f < 3; f++) q.put(f, new int[] {f});
            for (int a = 0; a < items(); a++) for (int b = a + 1; b < items(); b++) q.put(10 + 10 * a + b, new int[] {a, b});
            List<Integer> every = new ArrayList<>();
            for (int w = 0; w < ways(); w++) every.add(w);
            int all = outcomes(every), best = -1, least = all;
            for (Map.Entry<Integer, int[]> en : q.entrySet()) {
                List<Integer> yes = new ArrayList<>(), no = new ArrayList<>();
                int[] v = en.getValue();
                for (int w : every) ((v.length == 1 ? (w >> v[0] & 1) == 1 : ahead(w / 8, v[0], v[1])) ? yes : no).add(w);
                int m = Math.max(outcomes(yes), outcomes(no));
                if (m < least) {
                    least = m;
                    best = en.getKey();
                }
            }
            return best;
        }

        int mend(int paper, int thing, int person) {
            for (int many = 0; many <= 6; many++) {
                for (int c = 0; c < 64; c++) {
                    if (Integer.bitCount(c) == many && isEnough(paper, thing, person, c)) return c;
                }
            }
            return -1;
        }

        boolean isEnough(int paper, int thing, int person, int c) {
            boolean any = false;
            for (int w = 0; w < ways(); w++) {
                List<Integer> row = orders.get(w / 8);
                if ((c & 32) != 0 && row.get(row.size() - 1) != paper) continue;
                any = true;
                Map<Integer, Integer> got = new TreeMap<>();
                thing(thing, row, w % 8, got, paper, c);
                if (!e.worth.get(thing).equals(got.get(person))) return false;
            }
            return any;
        }

        int floor(int set) {
            int least = Integer.MAX_VALUE;
            for (int[] row : allSums()) {
                int all = 0;
                for (int p = 0; p < row.length; p++) if ((set >> p & 1) == 1) all += row[p];
                least = Math.min(least, all);
            }
            return least;
        }
    }

    static int bits(Iterable<Integer> set) {
        int b = 0;
        for (int i : set) b |= 1 << i;
        return b;
    }

    // ------------------------------------------------------------------ random texts

    static final class Maker {
        final Random r;
        Maker(Random r) { this.r = r; }
        boolean odds(int in) { return r.nextInt(in) == 0; }
        String pick(String... ws) { return ws[r.nextInt(ws.length)]; }
        String of(List<String> names) { return names.isEmpty() ? "x" : names.get(r.nextInt(names.size())); }

        String estate() {
            List<String> c = new ArrayList<>();
            List<String> lands = new ArrayList<>(), people = new ArrayList<>();
            int nl = 1 + r.nextInt(4);
            if (odds(20)) nl = 0;
            for (int i = 0; i < nl; i++) {
                StringBuilder b = new StringBuilder("land l" + (char) ('a' + i));
                if (odds(2)) b.append(" seen ").append(odds(3) ? r.nextInt(4) : 0);
                for (String w : List.of("hand", "pencil", "wed", "part", "tear", "wake", "lost")) if (odds(2)) b.append(' ').append(w);
                if (odds(2)) b.append(" gain ").append(pick("void", "gift"));
                if (odds(2)) b.append(" wife ").append(r.nextInt(101));
                if (odds(2)) b.append(" force ").append(r.nextInt(91));
                if (odds(2)) b.append(" house ").append(pick("own", "there", "home", "born"));
                if (odds(2)) b.append(" move ").append(pick("own", "home", "born"));
                lands.add("l" + (char) ('a' + i));
                c.add(b.toString());
            }
            for (String w : List.of("court", "home", "born")) if (odds(2) && nl > 0) c.add(w + " " + of(lands));
            int np = r.nextInt(9);
            boolean wife = false;
            for (int i = 0; i < np; i++) {
                String role = pick("wife", "child", "child", "kin", "kin", "friend");
                if (role.equals("wife") && wife || role.equals("kin") && people.isEmpty()) role = "child";
                wife |= role.equals("wife");
                String n = "p" + (char) ('a' + i);
                c.add("person " + n + " " + role + (role.equals("kin") ? " " + of(people) : "") + (odds(4) ? " dead" : ""));
                people.add(n);
            }
            int nt = r.nextInt(odds(3) ? 9 : 4);
            for (int i = 0; i < nt; i++) {
                c.add("thing t" + (char) ('a' + i) + " " + (1 + r.nextInt(odds(2) ? 5 : 9999)) + (nl > 0 && odds(2) ? " in " + of(lands) : ""));
            }
            if (odds(2)) c.add("money " + r.nextInt(odds(2) ? 100 : 100000));
            if (odds(3)) c.add("owed " + r.nextInt(odds(2) ? 100 : 100000));
            return join(c);
        }

        String paper(E e, int papers) {
            List<String> c = new ArrayList<>();
            if (odds(2)) {
                int f = r.nextInt(12);
                c.add("made " + f + " " + (f + r.nextInt(12)));
            }
            if (!odds(4)) c.add("signed");
            if (odds(3)) c.add("hand");
            if (odds(4)) c.add("pencil");
            if (odds(4)) c.add("undo");
            if (!e.people.isEmpty()) {
                List<String> by = new ArrayList<>(e.people);
                java.util.Collections.shuffle(by, r);
                for (int i = 0; i < Math.min(by.size(), r.nextInt(4)); i++) c.add("by " + by.get(i));
                List<String> things = new ArrayList<>(e.things);
                java.util.Collections.shuffle(things, r);
                int many = r.nextInt(6);
                for (int i = 0; i < many; i++) {
                    if (odds(2)) c.add("pay " + (1 + r.nextInt(odds(2) ? 60 : 99999)) + " to " + of(e.people) + iff(e));
                    else if (!things.isEmpty()) c.add("give " + things.remove(0) + " to " + of(e.people) + iff(e));
                }
                if (odds(2)) {
                    java.util.Collections.shuffle(by, r);
                    c.add("rest to " + String.join(" and ", by.subList(0, 1 + r.nextInt(Math.min(4, by.size())))));
                }
            }
            if (papers > 0) {
                for (int i = 0; i < papers; i++) {
                    if (odds(3)) c.add("undo paper " + i);
                    if (odds(5)) c.add("again " + i);
                }
                if (odds(4)) c.add("with " + r.nextInt(papers));
            }
            java.util.Collections.shuffle(c, r);
            return join(c);
        }

        String iff(E e) {
            if (!odds(3)) return "";
            return odds(2) ? " if " + of(e.people) + pick(" dead", " alive") : " if fact " + r.nextInt(3) + pick("", " not");
        }

        String join(List<String> c) {
            StringBuilder b = new StringBuilder();
            for (String s : c) b.append(s).append(odds(4) ? " ;" : ";").append(pick("", " ", "\n"));
            return b.toString();
        }

        // A text with something wrong in it, most of the time.
        String spoil(String s) {
            return switch (r.nextInt(4)) {
                case 0 -> otherNumber(s);
                case 1 -> otherWord(s);
                case 2 -> moreClauses(s);
                default -> otherTokens(s);
            };
        }

        String otherNumber(String s) {
            return oneInstead(s, "[0-9]+", pick("0", "1", "2", "3", "4", "5", "90", "91", "100", "101", "9999", "10000", "99999",
                    "00003", "000003", "100000"));
        }

        String otherWord(String s) {
            return oneInstead(s, "[a-z]+", pick("la", "lb", "lc", "ld", "pa", "pb", "pc", "pd", "pe", "ta", "tb", "tc", "fact", "to",
                    "and", "wife", "abcdefgh", "abcdefghi"));
        }

        String oneInstead(String s, String like, String by) {
            List<int[]> found = new ArrayList<>();
            java.util.regex.Matcher m = java.util.regex.Pattern.compile(like).matcher(s);
            while (m.find()) found.add(new int[] {m.start(), m.end()});
            if (found.isEmpty()) return s;
            int[] at = found.get(r.nextInt(found.size()));
            return s.substring(0, at[0]) + by + s.substring(at[1]);
        }

        // Clauses told over again, or of new names, come to TWICE and ROOM.
        String moreClauses(String s) {
            List<String> c = new ArrayList<>(Arrays.asList(s.trim().split("\\s*;\\s*")));
            c.removeIf(String::isEmpty);
            int many = 1 + r.nextInt(3);
            for (int i = 0; i < many && !c.isEmpty(); i++) {
                String one = c.get(r.nextInt(c.size()));
                int more = 1 + r.nextInt(8);
                for (int j = 0; j < more; j++) {
                    String told = one.replaceFirst("^(land|person|thing) \\w+", "$1 n" + (char) ('a' + i) + (char) ('a' + j));
                    c.add(r.nextInt(c.size() + 1), odds(2) ? told : one.replaceFirst("(give|by|to) [pt][a-h]", "$1 " + pick("pa", "pb", "pc", "pd", "pe", "ta", "tb")));
                }
            }
            String all = join(c);
            return all.length() > 880 ? all.substring(0, 880) : all;
        }

        String otherTokens(String s) {
            List<Token> t = new Tokens(s).all;
            t = new ArrayList<>(t.subList(0, t.size() - 1));
            int many = 1 + r.nextInt(2);
            for (int i = 0; i < many; i++) {
                int at = t.isEmpty() ? 0 : r.nextInt(t.size());
                String w = pick("land", "court", "home", "born", "person", "wife", "child", "kin", "friend", "dead", "thing", "in",
                        "money", "owed", "seen", "hand", "pencil", "gain", "void", "gift", "made", "signed", "by", "give", "pay",
                        "rest", "to", "and", "undo", "paper", "again", "with", "if", "fact", "not", "alive", ";", ";", "0", "1",
                        "99999", "abcdefgh", "abcdefghi", "A", "\u0000", ".", "pa", "pb", "la", "lb", "ta", "tb", "\u00ff", "\t");
                int kind = r.nextInt(4);
                if (kind == 0 || t.isEmpty()) t.add(at, new Token(w, 0));
                else if (kind == 1) t.set(at, new Token(w, 0));
                else if (kind == 2) t.remove(at);
                else t.add(at, t.get(r.nextInt(t.size())));
            }
            StringBuilder b = new StringBuilder();
            for (Token k : t) b.append(k.text()).append(odds(150) ? "" : pick(" ", "\n", "  "));
            if (odds(6)) b.setLength(r.nextInt(b.length() + 1));
            if (b.length() > 880) b.setLength(880);
            return b.toString();
        }
    }

    // ------------------------------------------------------------------ comparing

    static void due(String what, long got, long want) {
        compared++;
        if (got != want) {
            wrong++;
            if (wrong < 40) System.out.println(what + " answered " + got + ", due is " + want);
        }
    }

    static void type(WhichWill x, String s) {
        Telling.type(x, s);
        due("tape", x.count(3), s.length());
    }

    static void tellEstate(WhichWill x, Model m, String s) {
        type(x, s);
        m.estate(s);
        String run = "estate [" + s + "]";
        due(run, x.estate(), m.faultKind == 0 ? m.e.clauses : -1);
        due(run + " kind", x.fault(0), m.faultKind);
        due(run + " place", x.fault(1), m.faultPlace);
        due(run + " tape", x.count(3), 0);
    }

    static void tellPaper(WhichWill x, Model m, String s) {
        type(x, s);
        int want = m.paper(s);
        String run = "paper [" + s + "]";
        due(run, x.paper(), want);
        due(run + " kind", x.fault(0), m.faultKind);
        due(run + " place", x.fault(1), m.faultPlace);
        due(run + " tape", x.count(3), 0);
    }

    static void compareTold(WhichWill x, Model m) {
        E e = m.e;
        int[] want = {e.lands.size(), e.people.size(), e.things.size(), m.papers.size(), m.events.size(), e.amount("money"),
            e.amount("owed"), e.seat("court"), e.seat("home"), e.seat("born"), e.wife()};
        for (int i = -1; i < 52; i++) {
            int w = -1;
            if (i >= 0 && i <= 10) w = want[i];
            if (i >= 20 && i < 20 + e.things.size()) w = e.worth.get(i - 20);
            if (i >= 30 && i < 30 + e.things.size()) w = e.place.get(i - 30);
            if (i >= 40 && i < 40 + e.people.size()) w = e.dead.contains(i - 40) ? 1 : 0;
            due("told " + i, x.told(i), w);
        }
        for (int l = -1; l < 5; l++) for (int k = -1; k < 14; k++)
            due("rule", x.rule(l, k), l < 0 || l >= e.lands.size() || k < 0 || k > 12 ? -2 : e.rules.get(l)[k]);
        for (int t = -2; t < 9; t++) {
            boolean no = t < -1 || t >= e.things.size();
            due("law " + t, x.law(t), no ? -2 : e.lands.isEmpty() ? -1 : e.law(t)[0]);
            due("ring " + t, x.ring(t), no ? -2 : e.lands.isEmpty() ? -1 : e.law(t)[1]);
        }
        for (int q = -1; q < 5; q++) {
            boolean no = q < 0 || q >= m.papers.size();
            for (int k = -1; k < 13; k++) {
                if (no || k < 0 || k > 11) {
                    due("look", x.look(q, k), -2);
                    continue;
                }
                P p = m.papers.get(q);
                int[] w = {p.first, p.last, p.once.contains("hand") ? 1 : 0, p.once.contains("pencil") ? 1 : 0,
                    p.once.contains("signed") ? 1 : 0, bits(p.by), p.gifts.size(), bits(p.rest), p.undo ? 1 : 0, bits(p.undoes),
                    bits(p.wakes), p.with};
                due("look " + q + " " + k, x.look(q, k), w[k]);
            }
            for (int l = -1; l < 5; l++)
                due("good", x.good(q, l), no || l < 0 || l >= e.lands.size() ? -2 : m.papers.get(q).good(e.rules.get(l), 0) ? 1 : 0);
        }
        int[] counts = {e.clauses, m.stories.size(), m.items(), 0};
        for (int i = -1; i < 5; i++) due("count", x.count(i), i < 0 || i > 3 ? -1 : counts[i]);
        due("fault", x.fault(2), -1);
    }

    static void compareOrders(WhichWill x, Model m) {
        due("orders", x.orders(), m.orders.size());
        due("ways", x.ways(), m.ways());
        for (int o = -1; o <= m.orders.size(); o++) for (int i = -1; i < 7; i++) {
            boolean no = o < 0 || o >= m.orders.size();
            due("item", x.item(o, i), no ? -2 : i < 0 || i >= m.items() ? -1 : m.orders.get(o).get(i));
        }
        for (int a = -1; a <= m.items(); a++) for (int b = -1; b <= m.items(); b++) {
            int w = -2;
            if (a >= 0 && b >= 0 && a < m.items() && b < m.items() && a != b) {
                int yes = 0;
                for (int o = 0; o < m.orders.size(); o++) yes += m.ahead(o, a, b) ? 1 : 0;
                w = yes == 0 ? 0 : yes == m.orders.size() ? 1 : 2;
            }
            due("ahead", x.ahead(a, b), w);
        }
    }

    static void compareWay(WhichWill x, Model m, int w) {
        E e = m.e;
        boolean noWay = w < 0 || w >= m.ways();
        List<Integer> row = noWay ? List.of() : m.orders.get(w / 8);
        for (int l = -1; l <= e.lands.size(); l++) {
            boolean no = noWay || l < 0 || l >= e.lands.size();
            State s = no ? null : m.run(row, w % 8, l, -1, 0);
            due("counts " + w + " " + l, x.counts(w, l), no ? -2 : bits(s.counts));
            for (int q = -1; q <= m.papers.size(); q++)
                due("undone", x.undone(q, w, l), no || q < 0 || q >= m.papers.size() ? -2 : s.undone.getOrDefault(q, -1));
        }
        for (int t = -1; t <= e.things.size(); t++) {
            if (noWay || t < 0 || t >= e.things.size()) {
                due("goes", x.goes(t, w), -2);
                due("how", x.how(t, w), -2);
                continue;
            }
            Map<Integer, Integer> got = new TreeMap<>();
            int how = m.thing(t, row, w % 8, got, -1, 0);
            got.values().removeIf(v -> v == 0);
            due("goes " + t + " " + w, x.goes(t, w), bits(got.keySet()));
            due("how " + t + " " + w, x.how(t, w), how);
        }
        Map<Integer, Integer> paid = new TreeMap<>(), got = new TreeMap<>();
        if (!noWay) m.money(row, w % 8, paid, got);
        int[] sums = noWay ? new int[0] : m.sums(w);
        for (int p = -1; p <= e.people.size(); p++) {
            boolean no = noWay || p < 0 || p >= e.people.size();
            due("paid", x.paid(p, w), no ? -2 : paid.getOrDefault(p, 0));
            due("sum", x.sum(p, w), no ? -2 : sums[p]);
        }
        if (noWay) {
            due("lack", x.lack(w), -2);
            return;
        }
        long all = e.there() + e.worth.stream().mapToLong(v -> v).sum();
        long short0 = all * e.rules.get(e.law(-1)[0])[10] / 100;
        for (int p = 0; p < e.people.size(); p++) if (e.role.get(p).matches("child|kin")) short0 -= sums[p];
        due("lack", x.lack(w), Math.max(0, short0));
    }

    static void compareSure(WhichWill x, Model m) {
        boolean none = m.ways() == 0;
        for (int p = -1; p <= m.e.people.size(); p++) for (int g = 0; g < 2; g++) {
            int want = -2;
            if (p >= 0 && p < m.e.people.size()) {
                int q = p;
                want = none ? -1 : g == 0 ? m.allSums().stream().mapToInt(s -> s[q]).min().getAsInt()
                        : m.allSums().stream().mapToInt(s -> s[q]).max().getAsInt();
            }
            due("sure", x.sure(p, g == 1), want);
        }
        for (int t = -1; t <= m.e.things.size(); t++) {
            if (t < 0 || t >= m.e.things.size()) {
                due("surely", x.surely(t), -2);
                continue;
            }
            Set<Integer> seen = new HashSet<>();
            for (int w = 0; w < m.ways(); w++) {
                Map<Integer, Integer> got = new TreeMap<>();
                m.thing(t, m.orders.get(w / 8), w % 8, got, -1, 0);
                got.values().removeIf(v -> v == 0);
                seen.add(bits(got.keySet()));
            }
            due("surely " + t, x.surely(t), seen.size() == 1 ? seen.iterator().next() : -1);
        }
        for (int f = -1; f < 4; f++) {
            boolean h = false;
            if (f >= 0 && f < 3) for (int w = 0; w < m.ways(); w++) h |= !Arrays.equals(m.allSums().get(w), m.allSums().get(w ^ 1 << f));
            due("hangs", x.hangs(f), f < 0 || f > 2 ? -2 : none ? -1 : h ? 1 : 0);
        }
        List<Integer> every = new ArrayList<>();
        for (int w = 0; w < m.ways(); w++) every.add(w);
        due("outcomes", x.outcomes(), m.outcomes(every));
        due("ask", x.ask(), m.ask());
    }

    static void compareStories(WhichWill x, Model m) {
        int[] want = {-1, -1, -1};
        if (m.ways() > 0) {
            want = new int[] {99, 0, 0};
            for (int w = 0; w < m.ways(); w++) {
                int lies = 0;
                for (int s = 0; s < m.stories.size(); s++) if (!m.isTrue(m.stories.get(s), w)) lies |= 1 << s;
                int many = Integer.bitCount(lies);
                if (many < want[0]) want = new int[] {many, lies, 1};
                else if (many == want[0]) want = new int[] {many, want[1] & lies, want[2] + 1};
            }
        }
        for (int i = -1; i < 4; i++) due("stories " + i, x.stories(i), i < 0 || i > 2 ? -1 : want[i]);
        for (int s = -1; s <= m.stories.size(); s++) {
            int g = -1000000;
            if (s >= 0 && s < m.stories.size()) {
                int[] best = new int[2];
                for (int w = 0; w < m.ways(); w++) {
                    int k = m.isTrue(m.stories.get(s), w) ? 1 : 0;
                    best[k] = Math.max(best[k], m.allSums().get(w)[m.stories.get(s).who]);
                }
                g = m.ways() == 0 ? -1 : best[1] - best[0];
            }
            due("gain " + s, x.gain(s), g);
        }
    }

    static void compareSettling(WhichWill x, Model m, Random r) {
        int n = m.e.people.size();
        int sets = 1 << n;
        int[] floors = new int[sets];
        for (int set = 0; set < sets; set++) floors[set] = m.ways() == 0 ? -1 : m.floor(set);
        for (int set = 0; set < sets; set++) due("floor", x.floor(set), floors[set]);
        due("floor", x.floor(sets), -2);
        due("floor", x.floor(-1), -2);
        for (int k = 0; k < 6; k++) {
            StringBuilder b = new StringBuilder();
            int[] offer = new int[n];
            for (int p = 0; p < n; p++) {
                int fair = m.ways() == 0 ? 5 : m.allSums().get(r.nextInt(m.ways()))[p];
                offer[p] = Math.min(99999, Math.max(0, fair + r.nextInt(3) - 1));
                b.append(offer[p]).append(r.nextInt(3) == 0 ? "\n" : " ");
            }
            int want = 0;
            for (int set = sets - 1; set > 0; set--) {
                int all = 0;
                for (int p = 0; p < n; p++) if ((set >> p & 1) == 1) all += offer[p];
                if (floors[set] > all) want = set;
            }
            if (m.ways() == 0) want = -4;
            int spoil = r.nextInt(8);
            if (spoil == 0) { b.append(" 7"); want = -1; }
            if (spoil == 1) { b.append(";"); want = -1; }
            if (spoil == 2 && n > 0) { b.insert(0, "000000"); want = -1; }
            type(x, b.toString());
            due("settle [" + b + "]", x.settle(), want);
            due("settle tape", x.count(3), 0);
        }
    }

    static void addEvents(WhichWill x, Model m, Random r, int n) {
        for (int i = 0; i < n; i++) {
            int kind = r.nextInt(7) - 1, paper = r.nextInt(6) - 1, first = r.nextInt(30) - 1, fact = r.nextInt(6) - 2;
            int last = first + r.nextInt(30) - 1;
            if (r.nextInt(5) == 0) { first = 0; last = 9999 + r.nextInt(2); }
            if (r.nextInt(4) > 0) { kind = r.nextInt(5); paper = Math.max(0, Math.min(paper, m.papers.size() - 1)); }
            boolean ok = kind >= 0 && kind <= 4 && (kind < 2 || paper >= 0 && paper < m.papers.size())
                    && first >= 0 && last <= 9999 && first <= last && fact >= -1 && fact <= 2;
            int want = !ok ? -2 : m.events.size() == 3 || m.items() == 6 ? -3 : m.events.size();
            if (want >= 0) {
                m.events.add(new Ev(kind, paper, first, last, fact));
                m.changed();
            }
            due("event", x.event(kind, paper, first, last, fact), want);
        }
    }

    static void addStories(WhichWill x, Model m, Random r, int n) {
        for (int i = 0; i < n; i++) {
            int who = r.nextInt(m.e.people.size() + 2) - 1;
            boolean isWho = who >= 0 && who < m.e.people.size();
            if (r.nextBoolean()) {
                int f = r.nextInt(5) - 1, so = r.nextInt(8) - 1;
                if (r.nextInt(3) > 0) so = r.nextInt(2);
                boolean ok = isWho && f >= 0 && f < 3 && so >= 0 && so < 2;
                int want = !ok ? -2 : m.stories.size() == 8 ? -3 : m.stories.size();
                if (want >= 0) m.stories.add(new Story(who, f, so, null, null));
                due("says", x.says(who, f, so), want);
            } else {
                int a = r.nextInt(m.items() + 2) - 1, b = r.nextInt(m.items() + 2) - 1;
                boolean ok = isWho && a >= 0 && b >= 0 && a < m.items() && b < m.items() && a != b;
                int want = !ok ? -2 : m.stories.size() == 8 ? -3 : m.stories.size();
                if (want >= 0) m.stories.add(new Story(who, -1, -1, m.itemAt(a), m.itemAt(b)));
                due("tells", x.tells(who, a, b), want);
            }
        }
    }

    static void faultRuns(int seed, int runs) {
        Random r = new Random(seed);
        Maker k = new Maker(r);
        for (int i = 0; i < runs; i++) {
            WhichWill x = new WhichWill();
            Model m = new Model();
            tellEstate(x, m, k.estate());
            for (int j = 0; j < 6; j++) tellEstate(x, m, k.spoil(k.estate()));
            for (int j = 0; j < 12; j++) {
                String s = k.paper(m.e, m.papers.size());
                tellPaper(x, m, r.nextInt(4) == 0 ? s : k.spoil(s));
            }
            compareTold(x, m);
        }
    }

    static void wholeRuns(int seed, int runs) {
        Random r = new Random(seed);
        Maker k = new Maker(r);
        WhichWill x = new WhichWill();
        Model m = new Model();
        for (int i = 0; i < runs; i++) {
            // Half of the ESTATES come behind another one, of which nothing may be left.
            if (r.nextBoolean()) {
                x = new WhichWill();
                m = new Model();
            }
            tellEstate(x, m, k.estate());
            int most = r.nextInt(12) == 0 ? 7 : 1 + r.nextInt(5);
            for (int j = 0; j < most; j++) {
                if (r.nextInt(5) < 3) tellPaper(x, m, k.paper(m.e, m.papers.size()));
                else addEvents(x, m, r, 2);
                if (r.nextInt(3) == 0) addStories(x, m, r, 2);
            }
            addStories(x, m, r, 2);
            int before = wrong;
            compareTold(x, m);
            compareOrders(x, m);
            for (int j = 0; j < 12; j++) compareWay(x, m, r.nextInt(m.ways() + 2) - 1);
            if (m.orders.size() <= 130) {
                compareSure(x, m);
                compareStories(x, m);
                compareSettling(x, m, r);
                for (int q = 0; q < m.papers.size(); q++)
                    for (int t = 0; t < Math.min(3, m.e.things.size()); t++)
                        for (int p = 0; p < m.e.people.size(); p++)
                            due("mend " + q + " " + t + " " + p, x.mend(q, t, p), m.mend(q, t, p));
                due("mend", x.mend(m.papers.size(), 0, 0), -2);
                due("mend", x.mend(0, m.e.things.size(), 0), -2);
                due("mend", x.mend(0, 0, m.e.people.size()), -2);
                due("mend", x.mend(-1, 0, 0), -2);
            }
            // What mending tries must leave nothing behind.
            for (int j = 0; j < 3; j++) compareWay(x, m, r.nextInt(m.ways() + 2) - 1);
            if (wrong > before) System.out.println("  .. in run " + i + " of seed " + seed);
        }
    }

    // Many unlike OUTCOMES: all papers good, most gifts by facts, few undone.
    static void richRuns(int seed, int runs) {
        Random r = new Random(seed);
        Maker k = new Maker(r);
        WhichWill x = new WhichWill();
        for (int i = 0; i < runs; i++) {
            Model m = new Model();
            StringBuilder b = new StringBuilder("land a seen 0 wed part tear wake lost gain " + k.pick("void", "gift")
                    + " house there; land b seen 0 part wake; money " + r.nextInt(99999) + ";");
            for (int p = 0; p < 8; p++) b.append("person p" + (char) ('a' + p) + " " + (p == 0 ? "wife" : k.pick("child", "friend", "kin pa")) + ";");
            for (int t = 0; t < 6; t++) b.append("thing t" + (char) ('a' + t) + " " + (1 + r.nextInt(9999)) + k.pick(" in b;", ";"));
            tellEstate(x, m, b.toString());
            for (int q = 0; q < 4; q++) {
                StringBuilder c = new StringBuilder("signed;");
                int gifts = k.odds(3) ? 8 : 5;
                List<String> things = new ArrayList<>(m.e.things);
                java.util.Collections.shuffle(things, r);
                for (int g = 0; g < gifts; g++) {
                    c.append(g < 4 ? "give " + things.remove(0) : "pay " + (1 + r.nextInt(30000))).append(" to ").append(k.of(m.e.people));
                    c.append(k.odds(4) ? "" : " if fact " + r.nextInt(3) + k.pick("", " not")).append(';');
                }
                if (k.odds(2)) c.append("rest to " + k.of(m.e.people) + ";");
                if (k.odds(3)) c.append("by " + k.of(m.e.people) + ";");
                if (q > 0 && k.odds(3)) c.append("undo paper " + r.nextInt(q) + ";");
                if (q > 0 && k.odds(4)) c.append("again " + r.nextInt(q) + ";");
                if (k.odds(3)) c.append("made " + r.nextInt(5) + " " + (5 + r.nextInt(9)) + ";");
                tellPaper(x, m, c.toString());
            }
            addEvents(x, m, r, 1);
            if (m.orders.size() <= 30) addEvents(x, m, r, 1);
            addStories(x, m, r, 6);
            compareSure(x, m);
            compareStories(x, m);
            compareSettling(x, m, r);
            for (int j = 0; j < 12; j++) compareWay(x, m, r.nextInt(m.ways()));
        }
    }

    public static void main(String[] args) {
        int times = args.length > 0 ? Integer.parseInt(args[0]) : 8;
        for (int seed = 1; seed <= times; seed++) {
            faultRuns(seed, 400);
            wholeRuns(1000 + seed, 150);
            richRuns(2000 + seed, 12);
        }
        System.out.println(compared + " answers compared, " + wrong + " not as due");
        if (wrong != 0) System.exit(1);
    }
}
