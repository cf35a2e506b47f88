import java.util.ArrayList;
import java.util.List;

/**
 * The document once more, in another way than the program's: people are objects of a tree of classes, texts are
 * kept as words and worked out by splitting them, faults are found by an automaton, the dealing by comparing all.
 */
final class Model {
    static final int BAD = Due.BAD, NO = Due.NO, FULL = Due.FULL, NONE = Due.NONE, NOTHING = Due.NOTHING;
    static final int KIND = Due.KIND, INDEX = Due.INDEX, SIZE = Due.SIZE;

    static class One implements Cloneable {
        int name;
        int born;
        Integer died;

        boolean holds(int y, int term) {
            return died == null || y - died < term;
        }

        int worth() {
            return name;
        }

        One twin() {
            try {
                return (One) clone();
            } catch (CloneNotSupportedException e) {
                throw new IllegalStateException(e);
            }
        }
    }

    static class Away extends One {
        @Override
        boolean holds(int y, int term) {
            return super.holds(y, term) && y - born < 100;
        }

        @Override
        int worth() {
            return super.worth() + 7;
        }
    }

    static class Lost extends Away {
        @Override
        boolean holds(int y, int term) {
            return super.holds(y, term) && (died != null || Math.floorMod(y, 2) == 0);
        }

        @Override
        int worth() {
            return super.worth() * 2;
        }
    }

    static class Saint extends One {
        @Override
        boolean holds(int y, int term) {
            return super.holds(y, term) || y - died < 200;
        }

        @Override
        int worth() {
            return 200 - name;
        }
    }

    static class King extends Saint {
        @Override
        boolean holds(int y, int term) {
            return super.holds(y, term) || y - born < 500;
        }

        @Override
        int worth() {
            return super.worth() - 9;
        }
    }

    static class Guest extends One {
        @Override
        boolean holds(int y, int term) {
            return died == null;
        }

        @Override
        int worth() {
            return 3;
        }
    }

    private static final List<Class<? extends One>> CLASSES =
        List.of(One.class, Away.class, Saint.class, Lost.class, King.class, Guest.class);

    static One make(int kind, int name, int born, Integer died) {
        One one = kind == 0 ? new One() : kind == 1 ? new Away() : kind == 2 ? new Saint()
            : kind == 3 ? new Lost() : kind == 4 ? new King() : new Guest();
        one.name = name;
        one.born = born;
        one.died = died;
        return one;
    }

    static int kindOf(One one) {
        return CLASSES.indexOf(one.getClass());
    }

    /** Words and signs of a text that was taken, the key first. */
    record Law(int key, List<String> words) {
        int leaves() {
            int leaves = 0;
            for (String word : words) {
                leaves += Character.isLetterOrDigit(word.charAt(0)) ? 1 : 0;
            }
            return leaves;
        }
    }

    /** All that an image keeps. */
    static final class State {
        final List<One> people = new ArrayList<>();
        final List<int[]> children = new ArrayList<>();
        final List<Law> laws = new ArrayList<>();
        int term = 80;
        int year;
        int z = 1;

        State twin() {
            State twin = new State();
            for (One one : people) {
                twin.people.add(one.twin());
            }
            twin.children.addAll(children);
            twin.laws.addAll(laws);
            twin.term = term;
            twin.year = year;
            twin.z = z;
            return twin;
        }

        int draw() {
            z = z * 1103515245 + 12345;
            return z >>> 8;
        }

        int lawOf(int key) {
            for (int i = laws.size() - 1; i >= 0; i--) {
                if (laws.get(i).key == key) {
                    return i;
                }
            }
            return -1;
        }

        boolean near(int name, int other) {
            int[] a = letters(name);
            int[] b = letters(other);
            int d = Model.apart(name, other);
            int law = lawOf(0);
            if (law < 0) {
                return d == 0;
            }
            return Words.value(laws.get(law).words, "dfl", d, a[0] == b[0] ? 1 : 0, a[2] == b[2] ? 1 : 0) != 0;
        }

        boolean free(int name, int y) {
            return people.stream().noneMatch(one -> one.holds(y, term) && near(name, one.name));
        }

        List<Integer> frees() {
            List<Integer> frees = new ArrayList<>();
            for (int name = 0; name < 125; name++) {
                if (free(name, year)) {
                    frees.add(name);
                }
            }
            return frees;
        }

        int alive() {
            return (int) people.stream().filter(one -> one.died == null).count();
        }

        int passYear() {
            int dead = 0;
            for (One one : people) {
                if (one.died != null) {
                    continue;
                }
                int x = draw() % 100;
                int law = lawOf(1);
                int age = year - one.born;
                int dies = law < 0 ? age / 2 : Words.value(laws.get(law).words, "ak", age, kindOf(one));
                if (dies > 100 || dies > 0 && x < dies) {
                    one.died = year;
                    dead++;
                }
            }
            year++;
            return dead;
        }

        int passYears(int n) {
            int dead = 0;
            for (int i = 0; i < n; i++) {
                dead += passYear();
            }
            return dead;
        }

        /** For each child 0: its first, 1: its second, 2: none. */
        int[] dealing() {
            int ways = 1;
            for (int i = 0; i < children.size(); i++) {
                ways *= 3;
            }
            int[] best = null;
            for (int way = 0; way < ways; way++) {
                int[] choice = new int[children.size()];
                int left = way;
                for (int c = choice.length - 1; c >= 0; c--) {
                    choice[c] = left % 3;
                    left /= 3;
                }
                if (allowed(choice) && (best == null || better(choice, best))) {
                    best = choice;
                }
            }
            return best;
        }

        boolean allowed(int[] choice) {
            for (int c = 0; c < choice.length; c++) {
                if (choice[c] == 2) {
                    continue;
                }
                int name = children.get(c)[choice[c]];
                if (!free(name, year)) {
                    return false;
                }
                for (int e = c + 1; e < choice.length; e++) {
                    if (choice[e] != 2 && near(name, children.get(e)[choice[e]])) {
                        return false;
                    }
                }
            }
            return true;
        }

        static boolean better(int[] choice, int[] best) {
            int given = given(choice) - given(best);
            int firsts = firsts(choice) - firsts(best);
            return given > 0 || given == 0 && firsts > 0;
        }

        static int given(int[] choice) {
            int given = 0;
            for (int c : choice) {
                given += c < 2 ? 1 : 0;
            }
            return given;
        }

        static int firsts(int[] choice) {
            int firsts = 0;
            for (int c : choice) {
                firsts += c == 0 ? 1 : 0;
            }
            return firsts;
        }
    }

    static int[] letters(int name) {
        return new int[] {name / 25, name % 25 / 5, name % 5};
    }

    static int apart(int name, int other) {
        int[] a = letters(name);
        int[] b = letters(other);
        int apart = 0;
        for (int i = 0; i < 3; i++) {
            apart += a[i] != b[i] ? 1 : 0;
        }
        return apart;
    }

    State now = new State();
    State image;
    String tape = "";
    /** null: missing; sort of each beside it; a null place is no number. */
    final Integer[][] sheets = new Integer[4][];
    final int[] sorts = new int[4];
    final Object[] slots = new Object[5];
    final List<Integer> waiting = new ArrayList<>();

    private boolean isPerson(int person) {
        return 0 <= person && person < now.people.size();
    }

    private static boolean isName(int name) {
        return 0 <= name && name <= 124;
    }

    private static boolean isKind(int kind) {
        return 0 <= kind && kind <= 5;
    }

    private static int bit(boolean yes) {
        return yes ? 1 : 0;
    }

    private static int orNone(Integer v) {
        return v == null ? NONE : v;
    }

    int person(int kind, int name, int born) {
        if (!isKind(kind) || !isName(name) || born < -999 || born > now.year) {
            return BAD;
        }
        if (now.people.size() == 10) {
            return FULL;
        }
        now.people.add(make(kind, name, born, null));
        return now.people.size() - 1;
    }

    int told(int person, int what) {
        if (!isPerson(person) || what < 0 || what > 5) {
            return BAD;
        }
        One one = now.people.get(person);
        int[] all = {kindOf(one), one.name, one.born, orNone(one.died), bit(one.holds(now.year, now.term)), one.worth()};
        return all[what];
    }

    int as(int person, int kind) {
        if (!isPerson(person) || !isKind(kind)) {
            return BAD;
        }
        One one = now.people.get(person);
        return CLASSES.get(kind).isInstance(one) ? one.name : KIND;
    }

    int turns(int person, int kind) {
        if (!isPerson(person) || !isKind(kind)) {
            return BAD;
        }
        One one = now.people.get(person);
        now.people.set(person, make(kind, one.name, one.born, one.died));
        return kindOf(one);
    }

    int set(int person, int what, int v) {
        if (!isPerson(person) || what < 1 || what > 3) {
            return BAD;
        }
        One one = now.people.get(person);
        int was = told(person, what);
        if (what == 1) {
            if (!isName(v)) {
                return BAD;
            }
            one.name = v;
        } else if (what == 2) {
            if (v < -999 || v > now.year || one.died != null && v > one.died) {
                return BAD;
            }
            one.born = v;
        } else {
            if (v != NONE && (v < one.born || v > now.year)) {
                return BAD;
            }
            one.died = v == NONE ? null : Integer.valueOf(v);
        }
        return was;
    }

    int holds(int person, int year) {
        if (!isPerson(person) || year < -999 || year > 99999) {
            return BAD;
        }
        return bit(now.people.get(person).holds(year, now.term));
    }

    int apartAsked(int name, int other) {
        return isName(name) && isName(other) ? apart(name, other) : BAD;
    }

    int near(int name, int other) {
        return isName(name) && isName(other) ? bit(now.near(name, other)) : BAD;
    }

    int lifetime(int v) {
        if (v < 0 || v > 200) {
            return BAD;
        }
        int was = now.term;
        now.term = v;
        return was;
    }

    int deal(int n) {
        if (n < 1 || n > 10) {
            return BAD;
        }
        int came = 0;
        while (came < n && now.people.size() < 10) {
            int kind = now.draw() % 6;
            int name = now.draw() % 125;
            now.people.add(make(kind, name, now.year - now.draw() % 90, null));
            came++;
        }
        return came;
    }

    int seed(int v) {
        int was = now.z;
        now.z = v;
        return was;
    }

    int free(int name, int year) {
        return isName(name) && year >= -999 && year <= 99999 ? bit(now.free(name, year)) : BAD;
    }

    int frees(int what) {
        if (what < 0 || what > 1) {
            return BAD;
        }
        List<Integer> frees = now.frees();
        return what == 0 ? frees.size() : frees.isEmpty() ? NONE : frees.get(0);
    }

    int soonest(int name) {
        if (!isName(name)) {
            return BAD;
        }
        for (int y = now.year; y <= now.year + 300; y++) {
            if (now.free(name, y)) {
                return y;
            }
        }
        return NONE;
    }

    int child(int first, int second) {
        if (!isName(first) || !isName(second)) {
            return BAD;
        }
        if (now.children.size() == 6) {
            return FULL;
        }
        now.children.add(new int[] {first, second});
        return now.children.size() - 1;
    }

    int forget() {
        int were = now.children.size();
        now.children.clear();
        return were;
    }

    int dealing(int what) {
        if (what < 0 || what > 1 + now.children.size()) {
            return BAD;
        }
        int[] choice = now.dealing();
        if (what < 2) {
            return what == 0 ? State.given(choice) : State.firsts(choice);
        }
        int c = what - 2;
        return choice[c] == 2 ? NONE : now.children.get(c)[choice[c]];
    }

    int christen() {
        int[] choice = now.dealing();
        for (int c = 0; c < choice.length; c++) {
            if (choice[c] < 2 && now.people.size() < 10) {
                now.people.add(make(0, now.children.get(c)[choice[c]], now.year, null));
            }
        }
        now.children.clear();
        return now.people.size();
    }

    int yields(int person) {
        if (!isPerson(person)) {
            return BAD;
        }
        int set = 0;
        for (int i = 0; i < now.people.size(); i++) {
            One other = now.people.get(i);
            if (i != person && other.died == null && now.near(now.people.get(person).name, other.name)) {
                set += 1 << i;
            }
        }
        return set;
    }

    int years(int n) {
        return n < 1 || n > 100 ? BAD : now.passYears(Math.min(n, 9999 - now.year));
    }

    int behind(int n, int what) {
        if (n < 0 || n > 100 || what < 0 || what > 2) {
            return BAD;
        }
        State then = now.twin();
        then.passYears(n);
        List<Integer> frees = then.frees();
        return what == 0 ? frees.size() : what == 1 ? then.alive() : frees.isEmpty() ? NONE : frees.get(0);
    }

    int ends() {
        State then = now.twin();
        for (int n = 0; n <= 200; n++) {
            boolean any = false;
            for (int name = 0; name < 125 && !any; name++) {
                any = then.free(name, then.year);
            }
            if (!any) {
                return n;
            }
            then.passYear();
        }
        return NONE;
    }

    int stays(int name, int n) {
        if (!isName(name) || n < 0 || n > 100) {
            return BAD;
        }
        State then = now.twin();
        int many = bit(then.free(name, then.year));
        for (int i = 0; i < n; i++) {
            then.passYear();
            many += bit(then.free(name, then.year));
        }
        return many;
    }

    int line(int sheet) {
        if (sheet < 0 || sheet > 3) {
            return BAD;
        }
        if (sheets[sheet] == null) {
            return NOTHING;
        }
        State then = now.twin();
        for (int place = 0; place < sheets[sheet].length; place++) {
            Integer name = sheets[sheet][place];
            if (name == null || !isName(name)) {
                continue;
            }
            if (!then.free(name, then.year)) {
                return place;
            }
            then.people.add(make(0, name, then.year, null));
        }
        return NONE;
    }

    int fine() {
        int law = now.lawOf(2);
        return law < 0 ? 0 : Words.value(now.laws.get(law).words, "yp", now.year, now.alive());
    }

    int feed(int a, int b, int c) {
        if (tape.length() + 12 > 96) {
            return FULL;
        }
        for (int four : new int[] {a, b, c}) {
            for (int shift = 24; shift >= 0; shift -= 8) {
                tape += (char) (four >> shift & 255);
            }
        }
        return tape.length();
    }

    int trim(int n) {
        if (n < 0 || n > tape.length()) {
            return BAD;
        }
        tape = tape.substring(0, n);
        return n;
    }

    int text() {
        Words words = new Words(tape);
        tape = "";
        if (words.fault >= 0) {
            return -100 - words.fault;
        }
        if (now.laws.size() == 14) {
            return FULL;
        }
        now.laws.add(new Law(words.key, words.words));
        return now.laws.size() - 1;
    }

    int textTold(int text, int what) {
        if (text < 0 || text >= now.laws.size() || what < 0 || what > 1) {
            return BAD;
        }
        return what == 0 ? now.laws.get(text).key : now.laws.get(text).leaves();
    }

    int why(int key) {
        if (key < 0 || key > 2) {
            return BAD;
        }
        int law = now.lawOf(key);
        return law < 0 ? NONE : law;
    }

    int sheet(int sheet, int sort, int n) {
        if (sheet < 0 || sheet > 3 || sort < -1 || sort > 1 || sort >= 0 && n > 24) {
            return BAD;
        }
        if (sort < 0) {
            sheets[sheet] = null;
            return 0;
        }
        if (n < 0) {
            return SIZE;
        }
        sheets[sheet] = new Integer[n];
        java.util.Arrays.fill(sheets[sheet], 0);
        sorts[sheet] = sort;
        return n;
    }

    int mark(int sheet, int place, int v) {
        if (sheet < 0 || sheet > 3) {
            return BAD;
        }
        if (sheets[sheet] == null) {
            return NOTHING;
        }
        if (place < 0 || place >= sheets[sheet].length) {
            return INDEX;
        }
        if (sorts[sheet] == 0 && v == NONE) {
            return KIND;
        }
        if (sorts[sheet] == 1 && v != NONE && Math.abs((long) v) > 99999) {
            return BAD;
        }
        sheets[sheet][place] = v == NONE ? null : Integer.valueOf(sorts[sheet] == 0 ? (short) v : v);
        return 1;
    }

    int pour(int sheet) {
        if (sheet < 0 || sheet > 3) {
            return BAD;
        }
        if (sheets[sheet] == null) {
            return NOTHING;
        }
        int otherwise = 0;
        for (int i = 0; i < now.people.size(); i++) {
            if (i >= sheets[sheet].length || sheets[sheet][i] == null) {
                continue;
            }
            int v = sheets[sheet][i];
            int name = v < 0 ? 0 : v > 124 ? 124 : v;
            otherwise += bit(name != now.people.get(i).name);
            now.people.get(i).name = name;
        }
        return otherwise;
    }

    int reads(int sheet) {
        if (sheet < 0 || sheet > 3) {
            return BAD;
        }
        if (sheets[sheet] == null) {
            return NOTHING;
        }
        for (int i = 0; i < sheets[sheet].length; i++) {
            Integer v = sheets[sheet][i];
            if (v != null && !(isPerson(i) && now.people.get(i).name == v)) {
                return i;
            }
        }
        return NONE;
    }

    int copy(int from, int place, int to, int at, int many) {
        if (from < 0 || from > 3 || to < 0 || to > 3) {
            return BAD;
        }
        if (sheets[from] == null || sheets[to] == null) {
            return NOTHING;
        }
        if (sorts[from] != sorts[to]) {
            return KIND;
        }
        if (place < 0 || at < 0 || many < 0 || (long) place + many > sheets[from].length
            || (long) at + many > sheets[to].length) {
            return INDEX;
        }
        Integer[] were = sheets[from].clone();
        for (int i = 0; i < many; i++) {
            sheets[to][at + i] = were[place + i];
        }
        return many;
    }

    int lay(int slot, int thing, int k) {
        if (slot < 0 || slot > 4 || thing < 0 || thing > 3 || thing == 1 && !isPerson(k)
            || thing == 2 && (k < 0 || k > 3)) {
            return BAD;
        }
        if (thing == 2 && sheets[k] == null) {
            return NOTHING;
        }
        Object was = slots[slot];
        slots[slot] = thing == 0 ? null : thing == 1 ? now.people.get(k).twin()
            : thing == 2 ? sheets[k].clone() : (Object) k;
        return was == null ? 0 : was instanceof One ? 1 : was instanceof Integer[] ? 2 : 3;
    }

    int ask(int slot, int kind) {
        if (slot < 0 || slot > 4 || !isKind(kind)) {
            return BAD;
        }
        Object held = slots[slot];
        return held == null ? NOTHING : CLASSES.get(kind).isInstance(held) ? ((One) held).worth() : KIND;
    }

    int item(int slot, int place) {
        if (slot < 0 || slot > 4) {
            return BAD;
        }
        if (slots[slot] == null) {
            return NOTHING;
        }
        if (!(slots[slot] instanceof Integer[] row)) {
            return KIND;
        }
        if (place < 0 || place >= row.length) {
            return INDEX;
        }
        return row[place] == null ? KIND : row[place];
    }

    int rest(int slot, int n) {
        if (slot < 0 || slot > 4) {
            return BAD;
        }
        if (slots[slot] == null) {
            return NOTHING;
        }
        if (!(slots[slot] instanceof Integer number)) {
            return KIND;
        }
        return n == 0 ? NO : number % n;
    }

    int tell(int v) {
        if (waiting.size() == 60) {
            return FULL;
        }
        waiting.add(v);
        return waiting.size();
    }

    int check(int n) {
        List<Integer> told = new ArrayList<>(waiting);
        waiting.clear();
        if (n < 1 || n > 30) {
            return BAD;
        }
        if (image == null) {
            return NO;
        }
        List<Integer> due = new ArrayList<>();
        State then = image.twin();
        for (int i = 0; i < n && then.year < 9999; i++) {
            then.passYear();
            due.add(then.alive());
            due.add(then.frees().size());
        }
        if (due.equals(told)) {
            return 0;
        }
        int right = 0;
        while (right < due.size() && right < told.size() && due.get(right).equals(told.get(right))) {
            right++;
        }
        return 1 + right;
    }

    int keep() {
        image = now.twin();
        return image.people.size();
    }

    int back() {
        if (image == null) {
            return NO;
        }
        now = image.twin();
        return now.people.size();
    }

    int count(int what) {
        int[] all = {now.people.size(), now.alive(), now.children.size(), now.year, now.term, now.laws.size(),
            waiting.size(), tape.length(), now.z};
        return what < 0 || what > 8 ? BAD : all[what];
    }
}
