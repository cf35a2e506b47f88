import java.util.Random;

/** Runs by lot, the same calls on the program and on the model: the answers are to be the same, and none is thrown. */
public final class ModelTest {
    private static final int RUNS = 280;
    /** Nothing is promised about an object behind so many calls. */
    private static final int CALLS = 512;
    /** The most that one step can need: 61 numbers and two checks. */
    private static final int STEP_MOST = 63;
    private static final int TAPES = 20000;
    private static final int[] ODD = {Integer.MIN_VALUE, Integer.MAX_VALUE, -1, 0, 1, 2, 3, 4, 5, 6, 9, 10, 11, 23, 24,
        25, 30, 31, 60, 99, 100, 101, 124, 125, 200, 201, 9999, 10000, 99999, 100000, -999, -1000, -99999, -100000,
        Due.NONE, Due.BAD, 65536, -65536};

    private final Random lot;
    private NotWorn x;
    private Model m;
    private String call;
    private int used;

    private ModelTest(long seed) {
        lot = new Random(seed);
    }

    public static void main(String[] args) {
        for (int run = 0; run < RUNS; run++) {
            new ModelTest(run).run(run);
        }
        new ModelTest(4711).tapes();
        Due.end();
    }

    private void run(int run) {
        x = new NotWorn();
        m = new Model();
        if (run % 7 == 3) {
            for (int i = 0; i < 100; i++) {
                x.years(100);
                m.years(100);
            }
            used = 100;
        }
        while (used + STEP_MOST <= CALLS && !compare(run)) {
            used++;
        }
    }

    /** Whether the answers differ; behind that the run tells nothing more. */
    private boolean compare(int run) {
        long both = both();
        int got = (int) (both >> 32);
        int due = (int) both;
        Due.is("run " + run + ": " + call, got, due);
        return got != due;
    }

    private void tapes() {
        for (int i = 0; i < TAPES; i++) {
            String tape = lot.nextInt(3) == 0 ? signs() : spoilt(law());
            tape = tape.substring(0, Math.min(96, tape.length()));
            x = new NotWorn();
            m = new Model();
            Due.tape(x, tape);
            m.tape = tape;
            Due.is("text of '" + tape + "'", x.text(), m.text());
            Due.is("leaves of '" + tape + "'", x.textTold(0, 1), m.textTold(0, 1));
            Due.is("fine of '" + tape + "'", x.fine(), m.fine());
            for (int like = 0; like < 8; like++) {
                int other = Due.name(like & 1, like >> 1 & 1, like >> 2);
                Due.is("near of '" + tape + "'", x.near(0, other), m.near(0, other));
            }
        }
    }

    private int below(int bound) {
        return lot.nextInt(bound);
    }

    /** Mostly from the range, now and then beside it. */
    private int pick(int from, int to) {
        int which = below(40);
        if (which == 0) {
            return ODD[below(ODD.length)];
        }
        if (which == 1) {
            return from - 1;
        }
        if (which == 2) {
            return to + 1;
        }
        return from + below(to - from + 1);
    }

    /** Few names, so that many are near one another. */
    private int name() {
        return below(3) == 0 ? pick(0, 124) : 25 * below(2) + 5 * below(3) + below(3);
    }

    private int year() {
        return below(3) == 0 ? pick(-999, 99999) : pick(Math.max(-999, m.now.year - 120), m.now.year + 520);
    }

    private static long pair(int got, int due) {
        return (long) got << 32 | due & 0xffffffffL;
    }

    private long both() {
        switch (below(6)) {
            case 0:
                return people();
            case 1:
                return names();
            case 2:
                return years();
            case 3:
                return texts();
            case 4:
                return sheets();
            default:
                return rows();
        }
    }

    private long said(String name, int got, int due, int... args) {
        StringBuilder told = new StringBuilder(name).append('(');
        for (int i = 0; i < args.length; i++) {
            told.append(i == 0 ? "" : ", ").append(args[i]);
        }
        call = told.append(')').toString();
        return pair(got, due);
    }

    private int who() {
        return pick(0, Math.max(0, m.now.people.size() - 1));
    }

    private int birth() {
        return below(4) == 0 ? pick(-999, m.now.year) : pick(Math.max(-999, m.now.year - 110), m.now.year);
    }

    private long people() {
        int p = who();
        int k = pick(0, 5);
        int w = pick(0, 5);
        int n = name();
        int b = birth();
        int y = year();
        switch (below(12)) {
            case 0:
                return said("person", x.person(k, n, b), m.person(k, n, b), k, n, b);
            case 1:
            case 2:
                return said("told", x.told(p, w), m.told(p, w), p, w);
            case 3:
                return said("as", x.as(p, k), m.as(p, k), p, k);
            case 4:
                return said("turns", x.turns(p, k), m.turns(p, k), p, k);
            case 5:
                return set(p);
            case 6:
                return said("holds", x.holds(p, y), m.holds(p, y), p, y);
            case 7:
                int o = name();
                return said("apart", x.apart(n, o), m.apartAsked(n, o), n, o);
            case 8:
                int q = name();
                return said("near", x.near(n, q), m.near(n, q), n, q);
            case 9:
                int t = pick(0, 200);
                return said("lifetime", x.lifetime(t), m.lifetime(t), t);
            case 10:
                int many = below(3) == 0 ? pick(1, 10) : pick(1, 2);
                return said("deal", x.deal(many), m.deal(many), many);
            default:
                int z = below(3) == 0 ? ODD[below(ODD.length)] : lot.nextInt();
                return said("seed", x.seed(z), m.seed(z), z);
        }
    }

    private long set(int p) {
        int what = pick(1, 3);
        int v = what == 1 ? name() : what == 3 && below(3) == 0 ? Due.NONE : birth();
        return said("set", x.set(p, what, v), m.set(p, what, v), p, what, v);
    }

    private long names() {
        int n = name();
        int y = year();
        switch (below(9)) {
            case 0:
                return said("free", x.free(n, y), m.free(n, y), n, y);
            case 1:
                int f = pick(0, 1);
                return said("frees", x.frees(f), m.frees(f), f);
            case 2:
                return said("soonest", x.soonest(n), m.soonest(n), n);
            case 3:
            case 4:
            case 5:
                int o = name();
                return said("child", x.child(n, o), m.child(n, o), n, o);
            case 6:
                int w = pick(0, 1 + m.now.children.size());
                return said("dealing", x.dealing(w), m.dealing(w), w);
            case 7:
                return below(3) == 0 ? said("christen", x.christen(), m.christen())
                    : below(6) == 0 ? said("forget", x.forget(), m.forget()) : names();
            default:
                int p = who();
                return said("yields", x.yields(p), m.yields(p), p);
        }
    }

    private long years() {
        switch (below(8)) {
            case 0:
                int n = below(4) == 0 ? pick(1, 100) : pick(1, 12);
                return said("years", x.years(n), m.years(n), n);
            case 1:
            case 2:
                int b = pick(0, 100);
                int w = pick(0, 2);
                return said("behind", x.behind(b, w), m.behind(b, w), b, w);
            case 3:
                return below(3) == 0 ? said("ends", x.ends(), m.ends()) : years();
            case 4:
                int s = pick(0, 100);
                int name = name();
                return said("stays", x.stays(name, s), m.stays(name, s), name, s);
            case 5:
            case 6:
                int sheet = pick(0, 3);
                return said("line", x.line(sheet), m.line(sheet), sheet);
            default:
                return said("fine", x.fine(), m.fine());
        }
    }

    private long texts() {
        switch (below(9)) {
            case 0:
                int a = lot.nextInt();
                return said("feed", x.feed(a, 0x6e656172, 0x20642031), m.feed(a, 0x6e656172, 0x20642031), a);
            case 1:
                int n = pick(0, m.tape.length());
                return said("trim", x.trim(n), m.trim(n), n);
            case 2:
                return said("text", x.text(), m.text());
            case 3:
                int t = pick(0, Math.max(0, m.now.laws.size() - 1));
                int w = pick(0, 1);
                return said("textTold", x.textTold(t, w), m.textTold(t, w), t, w);
            case 4:
                int k = pick(0, 2);
                return said("why", x.why(k), m.why(k), k);
            default:
                return below(2) == 0 ? texts() : wholeText();
        }
    }

    private long wholeText() {
        String tape = below(4) == 0 ? spoilt(law()) : law();
        tape = tape.substring(0, Math.min(96, tape.length()));
        used += 2 + (tape.length() + 11) / 12;
        x.trim(0);
        m.trim(0);
        Due.tape(x, tape);
        m.tape = tape;
        long both = said("text", x.text(), m.text());
        call = call + " of '" + tape + "'";
        return both;
    }

    private long sheets() {
        int s = pick(0, 3);
        int slot = pick(0, 4);
        int place = pick(0, 9);
        switch (below(12)) {
            case 0:
                int sort = below(5) == 0 ? pick(-1, 1) : below(2);
                int n = below(4) == 0 ? pick(0, 24) : below(11);
                return said("sheet", x.sheet(s, sort, n), m.sheet(s, sort, n), s, sort, n);
            case 1:
            case 2:
                int v = below(5) == 0 ? ODD[below(ODD.length)] : below(4) == 0 ? Due.NONE : name();
                return said("mark", x.mark(s, place, v), m.mark(s, place, v), s, place, v);
            case 3:
                return below(3) == 0 ? said("pour", x.pour(s), m.pour(s), s) : sheets();
            case 4:
                return said("reads", x.reads(s), m.reads(s), s);
            case 5:
            case 6:
                int to = pick(0, 3);
                int at = pick(0, 6);
                int from = pick(0, 6);
                int many = pick(0, 6);
                return said("copy", x.copy(s, from, to, at, many), m.copy(s, from, to, at, many), s, from, to, at, many);
            case 7:
            case 8:
                int thing = pick(0, 3);
                int k = thing == 1 ? who() : thing == 2 ? pick(0, 3) : lot.nextInt();
                return said("lay", x.lay(slot, thing, k), m.lay(slot, thing, k), slot, thing, k);
            case 9:
                int kind = pick(0, 5);
                return said("ask", x.ask(slot, kind), m.ask(slot, kind), slot, kind);
            case 10:
                return said("item", x.item(slot, place), m.item(slot, place), slot, place);
            default:
                int by = below(3) == 0 ? ODD[below(ODD.length)] : pick(-20, 20);
                return said("rest", x.rest(slot, by), m.rest(slot, by), slot, by);
        }
    }

    private long rows() {
        switch (below(12)) {
            case 0:
                return below(4) == 0 ? said("keep", x.keep(), m.keep()) : rows();
            case 1:
                return below(4) == 0 ? said("back", x.back(), m.back()) : rows();
            case 2:
                int n = pick(1, 30);
                return said("check", x.check(n), m.check(n), n);
            case 3:
            case 4:
                return toldYears();
            case 5:
                int v = pick(0, 125);
                return said("tell", x.tell(v), m.tell(v), v);
            default:
                int what = pick(0, 8);
                return said("count", x.count(what), m.count(what), what);
        }
    }

    /** The right numbers, or nearly: without this a check by lot would hardly ever go far. */
    private long toldYears() {
        int n = 1 + below(30);
        Model.State then = m.image == null ? m.now.twin() : m.image.twin();
        int wrong = below(3) == 0 ? below(2 * n) : -1;
        int many = below(3) == 0 ? below(2 * n + 2) : 2 * n;
        used += 1 + many;
        x.check(0);
        m.check(0);
        int[] due = new int[2 * n + 2];
        for (int i = 0; i < n && then.year < 9999; i++) {
            then.passYear();
            due[2 * i] = then.alive();
            due[2 * i + 1] = then.frees().size();
        }
        for (int i = 0; i < many; i++) {
            int v = due[i] + (i == wrong ? 1 : 0);
            x.tell(v);
            m.tell(v);
        }
        return said("check of " + many + " numbers", x.check(n), m.check(n), n);
    }

    // ---- tapes

    private String law() {
        int key = below(3);
        String word = new String[] {"near", "dies", "fine"}[key];
        return blanks(3) + word + " " + blanks(4) + expression(key, below(5)) + blanks(4);
    }

    private String blanks(int rare) {
        return below(rare) == 0 ? " ".repeat(1 + below(2)) : "";
    }

    private String expression(int key, int depth) {
        StringBuilder text = new StringBuilder(piece(key, depth));
        int more = depth == 0 ? below(2) : below(4);
        boolean compared = false;
        for (int i = 0; i < more; i++) {
            char sign = "|&<=>+-*/<=+-".charAt(below(13));
            if (sign == '|' || sign == '&') {
                compared = false;
            } else if ("<=>".indexOf(sign) >= 0) {
                if (compared && below(20) > 0) {
                    continue;
                }
                compared = true;
            }
            text.append(blanks(8)).append(sign).append(blanks(8)).append(piece(key, depth));
        }
        return text.toString();
    }

    private String piece(int key, int depth) {
        String names = new String[] {"dfl", "ak", "yp"}[key];
        int which = below(depth > 0 ? 7 : 4);
        if (which < 2) {
            return String.valueOf(names.charAt(below(names.length())));
        }
        if (which < 4) {
            return String.valueOf(below(3) == 0 ? below(10000) : below(5));
        }
        if (which == 4) {
            return "!".repeat(1 + below(below(5) == 0 ? 9 : 2)) + piece(key, depth - 1);
        }
        int wraps = below(6) == 0 ? 1 + below(9) : 1;
        return "(".repeat(wraps) + expression(key, depth - 1) + ")".repeat(wraps);
    }

    private String spoilt(String tape) {
        StringBuilder text = new StringBuilder(tape);
        for (int i = below(3); i > 0 && text.length() > 0; i--) {
            int at = below(text.length());
            switch (below(4)) {
                case 0:
                    text.deleteCharAt(at);
                    break;
                case 1:
                    text.insert(at, sign());
                    break;
                case 2:
                    text.setLength(at);
                    break;
                default:
                    text.setCharAt(at, sign());
            }
        }
        return text.toString();
    }

    private char sign() {
        String signs = "dflakypz0123456789 ()!&|<=>+-*/";
        return below(30) == 0 ? (char) below(256) : signs.charAt(below(signs.length()));
    }

    /** A key and signs by lot, mostly brackets and !. */
    private String signs() {
        StringBuilder text = new StringBuilder("fine ");
        int many = below(40);
        for (int i = 0; i < many; i++) {
            text.append("!!((!(1y)+".charAt(below(10)));
        }
        return text.toString();
    }
}
