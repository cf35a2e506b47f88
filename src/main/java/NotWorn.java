/**
 * Names not worn for a lifetime: people and the names they hold, children and the dealing of names,
 * years, laws in texts, sheets, slots and images. Everything is made in the constructor and used again,
 * so that no call makes an object.
 */
public final class NotWorn {
    public static final int BAD = -1000000001, NO = -1000000002, FULL = -1000000003, NONE = -1000000005, NOTHING = -1000000011, KIND = -1000000012, INDEX = -1000000013, SIZE = -1000000014;

    private static final int PEOPLE_MOST = 10;
    private static final int CHILDREN_MOST = 6;
    private static final int NAMES = 125;
    private static final int YEAR_LEAST = -999;
    private static final int YEAR_MOST = 9999;
    private static final int ASKED_YEAR_MOST = 99999;
    private static final int TERM_MOST = 200;
    private static final int SOONEST_YEARS = 300;
    private static final int YEARS_MOST = 100;
    private static final int ENDS_YEARS = 200;
    private static final int TOLD_YEARS_MOST = 30;
    private static final int WAITING_MOST = 60;
    private static final int TEXTS_MOST = 14;
    private static final int TAPE_MOST = 96;
    private static final int FAULT_BASE = -100;
    private static final int SHEETS = 4;
    private static final int PLACES_MOST = 24;
    private static final int FLOAT_MOST = 99999;
    private static final int SLOTS = 5;

    private static final int MISSING = -1;
    private static final int SHORTS = 0;
    private static final int FLOATS = 1;

    private static final int HOLDS_NOTHING = 0;
    private static final int HOLDS_ONE = 1;
    private static final int HOLDS_SHEET = 2;
    private static final int HOLDS_NUMBER = 3;

    private static final int NEAR_KEY = 0;
    private static final int DIES_KEY = 1;
    private static final int FINE_KEY = 2;
    private static final int KEYS = 3;

    private final Laws laws = new Laws();
    private final Valley now = new Valley();
    private final Valley image = new Valley();
    private final Valley thought = new Valley();
    private boolean imageKept;
    private final Dealer dealer = new Dealer();
    private final Tape tape = new Tape();
    private final Row[] sheets = new Row[SHEETS];
    private final Slot[] slots = new Slot[SLOTS];
    private final int[] waiting = new int[WAITING_MOST];
    private int waits;
    private final int[] lineNames = new int[PLACES_MOST];

    public NotWorn() {
        for (int i = 0; i < sheets.length; i++) {
            sheets[i] = new Row();
        }
        for (int i = 0; i < slots.length; i++) {
            slots[i] = new Slot();
        }
    }

    // ---- people

    public int person(int kind, int name, int born) {
        if (!Kinds.isKind(kind) || !isName(name) || !isBirth(born)) {
            return BAD;
        }
        return now.people >= PEOPLE_MOST ? FULL : now.enter(kind, name, born);
    }

    public int told(int person, int what) {
        if (!isPerson(person)) {
            return BAD;
        }
        switch (what) {
            case 0:
                return now.kinds[person];
            case 1:
                return now.names[person];
            case 2:
                return now.births[person];
            case 3:
                return now.deaths[person];
            case 4:
                return bit(now.holdsIn(person, now.year));
            case 5:
                return Kinds.worth(now.kinds[person], now.names[person]);
            default:
                return BAD;
        }
    }

    public int as(int person, int kind) {
        if (!isPerson(person) || !Kinds.isKind(kind)) {
            return BAD;
        }
        return Kinds.isOf(now.kinds[person], kind) ? now.names[person] : KIND;
    }

    public int turns(int person, int kind) {
        if (!isPerson(person) || !Kinds.isKind(kind)) {
            return BAD;
        }
        int was = now.kinds[person];
        now.kinds[person] = kind;
        return was;
    }

    public int set(int person, int what, int v) {
        if (!isPerson(person)) {
            return BAD;
        }
        switch (what) {
            case 1:
                return isName(v) ? replace(now.names, person, v) : BAD;
            case 2:
                return canBeBorn(person, v) ? replace(now.births, person, v) : BAD;
            case 3:
                return canHaveDied(person, v) ? replace(now.deaths, person, v) : BAD;
            default:
                return BAD;
        }
    }

    public int holds(int person, int year) {
        if (!isPerson(person) || !isAskedYear(year)) {
            return BAD;
        }
        return bit(now.holdsIn(person, year));
    }

    public int apart(int name, int other) {
        if (!isName(name) || !isName(other)) {
            return BAD;
        }
        return Letters.unlike(Letters.alike(name, other));
    }

    public int near(int name, int other) {
        if (!isName(name) || !isName(other)) {
            return BAD;
        }
        return bit(now.areNear(name, other));
    }

    public int lifetime(int v) {
        if (v < 0 || v > TERM_MOST) {
            return BAD;
        }
        int was = now.term;
        now.term = v;
        return was;
    }

    public int deal(int n) {
        if (n < 1 || n > PEOPLE_MOST) {
            return BAD;
        }
        int came = Math.min(n, PEOPLE_MOST - now.people);
        for (int i = 0; i < came; i++) {
            now.drawPerson();
        }
        return came;
    }

    public int seed(int v) {
        int was = now.z;
        now.z = v;
        return was;
    }

    // ---- names

    public int free(int name, int year) {
        if (!isName(name) || !isAskedYear(year)) {
            return BAD;
        }
        now.gatherHeld(year);
        return bit(now.isClear(name));
    }

    public int frees(int what) {
        if (what != 0 && what != 1) {
            return BAD;
        }
        return what == 0 ? now.countFree() : now.leastFree();
    }

    public int soonest(int name) {
        if (!isName(name)) {
            return BAD;
        }
        for (int ahead = 0; ahead <= SOONEST_YEARS; ahead++) {
            now.gatherHeld(now.year + ahead);
            if (now.isClear(name)) {
                return now.year + ahead;
            }
        }
        return NONE;
    }

    public int child(int first, int second) {
        if (!isName(first) || !isName(second)) {
            return BAD;
        }
        return now.children >= CHILDREN_MOST ? FULL : now.wish(first, second);
    }

    public int forget() {
        int were = now.children;
        now.children = 0;
        return were;
    }

    public int dealing(int what) {
        if (what < 0 || what >= 2 + now.children) {
            return BAD;
        }
        dealer.settle(now);
        if (what == 0) {
            return dealer.bestGiven;
        }
        return what == 1 ? dealer.bestFirsts : dealer.best[what - 2];
    }

    public int christen() {
        dealer.settle(now);
        for (int c = 0; c < now.children; c++) {
            if (dealer.best[c] != NONE && now.people < PEOPLE_MOST) {
                now.enter(Kinds.ONE, dealer.best[c], now.year);
            }
        }
        now.children = 0;
        return now.people;
    }

    public int yields(int person) {
        if (!isPerson(person)) {
            return BAD;
        }
        int yielding = 0;
        for (int i = 0; i < now.people; i++) {
            if (i != person && now.isAlive(i) && now.areNear(now.names[person], now.names[i])) {
                yielding |= 1 << i;
            }
        }
        return yielding;
    }

    // ---- years

    public int years(int n) {
        if (n < 1 || n > YEARS_MOST) {
            return BAD;
        }
        int many = Math.min(n, YEAR_MOST - now.year);
        int dead = 0;
        for (int i = 0; i < many; i++) {
            dead += now.passYear(laws);
        }
        return dead;
    }

    public int behind(int n, int what) {
        if (n < 0 || n > YEARS_MOST || what < 0 || what > 2) {
            return BAD;
        }
        thought.become(now);
        for (int i = 0; i < n; i++) {
            thought.passYear(laws);
        }
        if (what == 0) {
            return thought.countFree();
        }
        return what == 1 ? thought.countAlive() : thought.leastFree();
    }

    public int ends() {
        thought.become(now);
        for (int behind = 0; behind <= ENDS_YEARS; behind++) {
            if (thought.leastFree() == NONE) {
                return behind;
            }
            thought.passYear(laws);
        }
        return NONE;
    }

    public int stays(int name, int n) {
        if (!isName(name) || n < 0 || n > YEARS_MOST) {
            return BAD;
        }
        thought.become(now);
        int many = 0;
        for (int behind = 0; behind <= n; behind++) {
            thought.gatherHeld(thought.year);
            if (thought.isClear(name)) {
                many++;
            }
            thought.passYear(laws);
        }
        return many;
    }

    public int line(int sheet) {
        if (!isSheet(sheet)) {
            return BAD;
        }
        Row row = sheets[sheet];
        if (row.sort == MISSING) {
            return NOTHING;
        }
        now.gatherHeld(now.year);
        int given = 0;
        for (int place = 0; place < row.size; place++) {
            int name = row.cells[place];
            if (!isName(name)) {
                continue;
            }
            if (!now.isClear(name) || isNearGiven(name, given)) {
                return place;
            }
            lineNames[given] = name;
            given++;
        }
        return NONE;
    }

    public int fine() {
        int text = now.counting[FINE_KEY];
        return text == NONE ? 0 : laws.work(text, now.year, now.countAlive(), 0);
    }

    // ---- texts

    public int feed(int a, int b, int c) {
        if (tape.length + 12 > TAPE_MOST) {
            return FULL;
        }
        tape.takeFour(a);
        tape.takeFour(b);
        tape.takeFour(c);
        return tape.length;
    }

    public int trim(int n) {
        if (n < 0 || n > tape.length) {
            return BAD;
        }
        tape.length = n;
        return n;
    }

    public int text() {
        boolean stands = tape.readText();
        tape.length = 0;
        if (!stands) {
            return FAULT_BASE - tape.start;
        }
        if (now.texts >= TEXTS_MOST) {
            return FULL;
        }
        laws.texts[now.texts].become(tape.draft);
        return now.takeText(tape.draft.key, laws);
    }

    public int textTold(int text, int what) {
        if (!isText(text) || what < 0 || what > 1) {
            return BAD;
        }
        return what == 0 ? laws.texts[text].key : laws.texts[text].leaves;
    }

    public int why(int key) {
        return key < 0 || key >= KEYS ? BAD : now.counting[key];
    }

    // ---- sheets, slots

    public int sheet(int sheet, int sort, int n) {
        if (!isSheet(sheet) || sort < MISSING || sort > FLOATS) {
            return BAD;
        }
        if (sort == MISSING) {
            sheets[sheet].clear(MISSING, 0);
            return 0;
        }
        if (n > PLACES_MOST) {
            return BAD;
        }
        if (n < 0) {
            return SIZE;
        }
        sheets[sheet].clear(sort, n);
        return n;
    }

    public int mark(int sheet, int place, int v) {
        if (!isSheet(sheet)) {
            return BAD;
        }
        Row row = sheets[sheet];
        if (row.sort == MISSING) {
            return NOTHING;
        }
        if (!row.hasPlace(place)) {
            return INDEX;
        }
        if (row.sort == SHORTS) {
            if (v == NONE) {
                return KIND;
            }
            row.cells[place] = (short) v;
            return 1;
        }
        if (v != NONE && (v < -FLOAT_MOST || v > FLOAT_MOST)) {
            return BAD;
        }
        row.cells[place] = v;
        return 1;
    }

    public int pour(int sheet) {
        if (!isSheet(sheet)) {
            return BAD;
        }
        Row row = sheets[sheet];
        if (row.sort == MISSING) {
            return NOTHING;
        }
        int otherwise = 0;
        int many = Math.min(row.size, now.people);
        for (int i = 0; i < many; i++) {
            if (row.cells[i] == NONE) {
                continue;
            }
            int name = Math.max(0, Math.min(NAMES - 1, row.cells[i]));
            if (replace(now.names, i, name) != name) {
                otherwise++;
            }
        }
        return otherwise;
    }

    public int reads(int sheet) {
        if (!isSheet(sheet)) {
            return BAD;
        }
        Row row = sheets[sheet];
        if (row.sort == MISSING) {
            return NOTHING;
        }
        for (int place = 0; place < row.size; place++) {
            if (row.cells[place] == NONE) {
                continue;
            }
            if (place >= now.people || row.cells[place] != now.names[place]) {
                return place;
            }
        }
        return NONE;
    }

    public int copy(int from, int place, int to, int at, int many) {
        if (!isSheet(from) || !isSheet(to)) {
            return BAD;
        }
        Row source = sheets[from];
        Row target = sheets[to];
        if (source.sort == MISSING || target.sort == MISSING) {
            return NOTHING;
        }
        if (source.sort != target.sort) {
            return KIND;
        }
        if (!source.hasPlaces(place, many) || !target.hasPlaces(at, many)) {
            return INDEX;
        }
        System.arraycopy(source.cells, place, target.cells, at, many);
        return many;
    }

    public int lay(int slot, int thing, int k) {
        if (!isSlot(slot) || thing < HOLDS_NOTHING || thing > HOLDS_NUMBER) {
            return BAD;
        }
        if (thing == HOLDS_ONE && !isPerson(k) || thing == HOLDS_SHEET && !isSheet(k)) {
            return BAD;
        }
        if (thing == HOLDS_SHEET && sheets[k].sort == MISSING) {
            return NOTHING;
        }
        Slot held = slots[slot];
        int was = held.thing;
        held.thing = thing;
        if (thing == HOLDS_ONE) {
            held.kind = now.kinds[k];
            held.name = now.names[k];
        } else if (thing == HOLDS_SHEET) {
            held.row.become(sheets[k]);
        } else if (thing == HOLDS_NUMBER) {
            held.number = k;
        }
        return was;
    }

    public int ask(int slot, int kind) {
        if (!isSlot(slot) || !Kinds.isKind(kind)) {
            return BAD;
        }
        Slot held = slots[slot];
        if (held.thing == HOLDS_NOTHING) {
            return NOTHING;
        }
        if (held.thing != HOLDS_ONE || !Kinds.isOf(held.kind, kind)) {
            return KIND;
        }
        return Kinds.worth(held.kind, held.name);
    }

    public int item(int slot, int place) {
        if (!isSlot(slot)) {
            return BAD;
        }
        Slot held = slots[slot];
        if (held.thing == HOLDS_NOTHING) {
            return NOTHING;
        }
        if (held.thing != HOLDS_SHEET) {
            return KIND;
        }
        if (!held.row.hasPlace(place)) {
            return INDEX;
        }
        return held.row.cells[place] == NONE ? KIND : held.row.cells[place];
    }

    public int rest(int slot, int n) {
        if (!isSlot(slot)) {
            return BAD;
        }
        Slot held = slots[slot];
        if (held.thing == HOLDS_NOTHING) {
            return NOTHING;
        }
        if (held.thing != HOLDS_NUMBER) {
            return KIND;
        }
        return n == 0 ? NO : held.number % n;
    }

    // ---- rows, images

    public int tell(int v) {
        if (waits >= WAITING_MOST) {
            return FULL;
        }
        waiting[waits] = v;
        waits++;
        return waits;
    }

    public int check(int n) {
        int waited = waits;
        waits = 0;
        if (n < 1 || n > TOLD_YEARS_MOST) {
            return BAD;
        }
        if (!imageKept) {
            return NO;
        }
        thought.become(image);
        int many = Math.min(n, YEAR_MOST - image.year);
        int right = 0;
        for (int i = 0; i < many; i++) {
            thought.passYear(laws);
            if (!waitedAt(right, waited, thought.countAlive())) {
                return 1 + right;
            }
            right++;
            if (!waitedAt(right, waited, thought.countFree())) {
                return 1 + right;
            }
            right++;
        }
        return right == waited ? 0 : 1 + right;
    }

    public int keep() {
        image.become(now);
        imageKept = true;
        return image.people;
    }

    public int back() {
        if (!imageKept) {
            return NO;
        }
        now.become(image);
        return now.people;
    }

    public int count(int what) {
        switch (what) {
            case 0:
                return now.people;
            case 1:
                return now.countAlive();
            case 2:
                return now.children;
            case 3:
                return now.year;
            case 4:
                return now.term;
            case 5:
                return now.texts;
            case 6:
                return waits;
            case 7:
                return tape.length;
            case 8:
                return now.z;
            default:
                return BAD;
        }
    }

    // ---- what the calls ask of their numbers

    private boolean isPerson(int person) {
        return person >= 0 && person < now.people;
    }

    private boolean isText(int text) {
        return text >= 0 && text < now.texts;
    }

    private boolean isBirth(int year) {
        return year >= YEAR_LEAST && year <= now.year;
    }

    private boolean canBeBorn(int person, int year) {
        return isBirth(year) && (now.isAlive(person) || year <= now.deaths[person]);
    }

    private boolean canHaveDied(int person, int year) {
        return year == NONE || year >= now.births[person] && year <= now.year;
    }

    private static boolean isName(int name) {
        return name >= 0 && name < NAMES;
    }

    private static boolean isAskedYear(int year) {
        return year >= YEAR_LEAST && year <= ASKED_YEAR_MOST;
    }

    private static boolean isSheet(int sheet) {
        return sheet >= 0 && sheet < SHEETS;
    }

    private static boolean isSlot(int slot) {
        return slot >= 0 && slot < SLOTS;
    }

    private static int bit(boolean yes) {
        return yes ? 1 : 0;
    }

    private static int replace(int[] row, int place, int v) {
        int was = row[place];
        row[place] = v;
        return was;
    }

    private boolean isNearGiven(int name, int given) {
        for (int i = 0; i < given; i++) {
            if (now.areNear(name, lineNames[i])) {
                return true;
            }
        }
        return false;
    }

    private boolean waitedAt(int place, int waited, int due) {
        return place < waited && place < WAITING_MOST && waiting[place] == due;
    }

    /** The tree of KINDS: which stands under which, how long each holds a name, what each is worth. */
    private static final class Kinds {
        static final int ONE = 0;
        private static final int AWAY = 1;
        private static final int SAINT = 2;
        private static final int LOST = 3;
        private static final int KING = 4;
        private static final int GUEST = 5;
        static final int MANY = 6;
        /** The KIND above each; -1 above ONE. */
        private static final int[] ABOVE = {-1, 0, 0, 1, 2, 0};

        static boolean isKind(int kind) {
            return kind >= 0 && kind < MANY;
        }

        static boolean isOf(int own, int kind) {
            int up = own;
            for (int step = 0; step < MANY && isKind(up); step++) {
                if (up == kind) {
                    return true;
                }
                up = ABOVE[up];
            }
            return false;
        }

        static boolean holdsIn(int kind, int born, int died, int term, int year) {
            boolean alive = died == NONE;
            boolean asOne = alive || year - died < term;
            boolean asAway = asOne && year - born < 100;
            boolean asSaint = asOne || year - died < 200;
            switch (kind) {
                case AWAY:
                    return asAway;
                case LOST:
                    return asAway && (!alive || year % 2 == 0);
                case SAINT:
                    return asSaint;
                case KING:
                    return asSaint || year - born < 500;
                case GUEST:
                    return alive;
                default:
                    return asOne;
            }
        }

        static int worth(int kind, int name) {
            switch (kind) {
                case AWAY:
                    return name + 7;
                case LOST:
                    return 2 * (name + 7);
                case SAINT:
                    return 200 - name;
                case KING:
                    return 200 - name - 9;
                case GUEST:
                    return 3;
                default:
                    return name;
            }
        }
    }

    /** Letters of NAMES. Which of the three are alike is told by bits: 1 the first, 2 the second, 4 the last. */
    private static final class Letters {
        static final int FIRST = 1;
        static final int SECOND = 2;
        static final int LAST = 4;
        static final int ALL = 7;

        static int alike(int name, int other) {
            int like = 0;
            if (name / 25 == other / 25) {
                like |= FIRST;
            }
            if (name / 5 % 5 == other / 5 % 5) {
                like |= SECOND;
            }
            if (name % 5 == other % 5) {
                like |= LAST;
            }
            return like;
        }

        static int unlike(int like) {
            return 3 - Integer.bitCount(like & ALL);
        }
    }

    /** All that an IMAGE keeps. The object has three: what is, what was kept, and what is only thought. */
    private static final class Valley {
        final int[] kinds = new int[PEOPLE_MOST];
        final int[] names = new int[PEOPLE_MOST];
        final int[] births = new int[PEOPLE_MOST];
        final int[] deaths = new int[PEOPLE_MOST];
        int people;
        final int[] firsts = new int[CHILDREN_MOST];
        final int[] seconds = new int[CHILDREN_MOST];
        int children;
        int term = 80;
        int year;
        int z = 1;
        /** How many TEXTS there are. They never become fewer than the IMAGE's, so one row of them serves all. */
        int texts;
        final int[] counting = {NONE, NONE, NONE};
        /** A bit for each way in which letters can be alike: near can tell no more of two NAMES than that. */
        private int nearWays = 1 << Letters.ALL;
        private final int[] held = new int[PEOPLE_MOST];
        private int holders;

        void become(Valley other) {
            System.arraycopy(other.kinds, 0, kinds, 0, PEOPLE_MOST);
            System.arraycopy(other.names, 0, names, 0, PEOPLE_MOST);
            System.arraycopy(other.births, 0, births, 0, PEOPLE_MOST);
            System.arraycopy(other.deaths, 0, deaths, 0, PEOPLE_MOST);
            System.arraycopy(other.firsts, 0, firsts, 0, CHILDREN_MOST);
            System.arraycopy(other.seconds, 0, seconds, 0, CHILDREN_MOST);
            System.arraycopy(other.counting, 0, counting, 0, KEYS);
            people = other.people;
            children = other.children;
            term = other.term;
            year = other.year;
            z = other.z;
            texts = other.texts;
            nearWays = other.nearWays;
        }

        /** Callers look ahead whether there is room. */
        int enter(int kind, int name, int born) {
            int number = people;
            kinds[number] = kind;
            names[number] = name;
            births[number] = born;
            deaths[number] = NONE;
            people++;
            return number;
        }

        /** Callers look ahead whether there is room. */
        int wish(int first, int second) {
            int number = children;
            firsts[number] = first;
            seconds[number] = second;
            children++;
            return number;
        }

        private int draw() {
            z = z * 1103515245 + 12345;
            return z >>> 8;
        }

        void drawPerson() {
            int kind = draw() % Kinds.MANY;
            int name = draw() % NAMES;
            int born = year - draw() % 90;
            enter(kind, name, born);
        }

        boolean isAlive(int person) {
            return deaths[person] == NONE;
        }

        int countAlive() {
            int alive = 0;
            for (int i = 0; i < people; i++) {
                if (isAlive(i)) {
                    alive++;
                }
            }
            return alive;
        }

        boolean holdsIn(int person, int y) {
            return Kinds.holdsIn(kinds[person], births[person], deaths[person], term, y);
        }

        boolean areNear(int name, int other) {
            return (nearWays >> Letters.alike(name, other) & 1) != 0;
        }

        /** Looked up once for a year, so that asking for all NAMES asks each of PEOPLE but once. */
        void gatherHeld(int y) {
            holders = 0;
            for (int i = 0; i < people; i++) {
                if (holdsIn(i, y)) {
                    held[holders] = names[i];
                    holders++;
                }
            }
        }

        /** Whether a NAME is FREE in the year that gatherHeld was asked for last. */
        boolean isClear(int name) {
            for (int i = 0; i < holders; i++) {
                if (areNear(name, held[i])) {
                    return false;
                }
            }
            return true;
        }

        int countFree() {
            gatherHeld(year);
            int many = 0;
            for (int name = 0; name < NAMES; name++) {
                if (isClear(name)) {
                    many++;
                }
            }
            return many;
        }

        int leastFree() {
            gatherHeld(year);
            for (int name = 0; name < NAMES; name++) {
                if (isClear(name)) {
                    return name;
                }
            }
            return NONE;
        }

        /** A YEAR: how many died in it. */
        int passYear(Laws laws) {
            int dead = 0;
            for (int i = 0; i < people; i++) {
                if (isAlive(i) && draw() % 100 < chanceToDie(i, laws)) {
                    deaths[i] = year;
                    dead++;
                }
            }
            year++;
            return dead;
        }

        private int chanceToDie(int person, Laws laws) {
            int age = year - births[person];
            int text = counting[DIES_KEY];
            int chance = text == NONE ? age / 2 : laws.work(text, age, kinds[person], 0);
            return Math.max(0, Math.min(100, chance));
        }

        /** The next TEXT of the laws is told from now on: its number. */
        int takeText(int key, Laws laws) {
            int number = texts;
            counting[key] = number;
            texts++;
            if (key == NEAR_KEY) {
                findNearWays(laws);
            }
            return number;
        }

        private void findNearWays(Laws laws) {
            nearWays = 0;
            for (int like = 0; like <= Letters.ALL; like++) {
                int first = bit((like & Letters.FIRST) != 0);
                int last = bit((like & Letters.LAST) != 0);
                if (laws.work(counting[NEAR_KEY], Letters.unlike(like), first, last) != 0) {
                    nearWays |= 1 << like;
                }
            }
        }
    }

    /** THE DEALING: every way is tried in the order that decides among equals, and only a better one replaces. */
    private static final class Dealer {
        /** The NAME of each CHILD, or NONE. */
        final int[] best = new int[CHILDREN_MOST];
        int bestGiven;
        int bestFirsts;
        private final int[] tried = new int[CHILDREN_MOST];
        private final boolean[] firstClear = new boolean[CHILDREN_MOST];
        private final boolean[] secondClear = new boolean[CHILDREN_MOST];

        void settle(Valley valley) {
            bestGiven = -1;
            bestFirsts = -1;
            valley.gatherHeld(valley.year);
            for (int c = 0; c < valley.children; c++) {
                firstClear[c] = valley.isClear(valley.firsts[c]);
                secondClear[c] = valley.isClear(valley.seconds[c]);
            }
            tryFrom(valley, 0, 0, 0);
        }

        /** The depth is the CHILD's number: 6 at most. */
        private void tryFrom(Valley valley, int child, int given, int first) {
            if (child >= valley.children || child >= CHILDREN_MOST) {
                remember(valley, given, first);
                return;
            }
            if (firstClear[child] && fits(valley, child, valley.firsts[child])) {
                tried[child] = valley.firsts[child];
                tryFrom(valley, child + 1, given + 1, first + 1);
            }
            if (secondClear[child] && fits(valley, child, valley.seconds[child])) {
                tried[child] = valley.seconds[child];
                tryFrom(valley, child + 1, given + 1, first);
            }
            tried[child] = NONE;
            tryFrom(valley, child + 1, given, first);
        }

        private boolean fits(Valley valley, int child, int name) {
            for (int c = 0; c < child; c++) {
                if (tried[c] != NONE && valley.areNear(tried[c], name)) {
                    return false;
                }
            }
            return true;
        }

        private void remember(Valley valley, int given, int first) {
            if (given < bestGiven || given == bestGiven && first <= bestFirsts) {
                return;
            }
            bestGiven = given;
            bestFirsts = first;
            System.arraycopy(tried, 0, best, 0, valley.children);
        }
    }

    /** A TEXT, as steps for a stack: numbers 0 .. 9999, then NAMES from NAME on, signs as their bytes below 0. */
    private static final class Text {
        static final int NAME = 10000;
        int key;
        int leaves;
        int length;
        final int[] steps = new int[TAPE_MOST];

        void begin(int newKey) {
            key = newKey;
            leaves = 0;
            length = 0;
        }

        void become(Text other) {
            key = other.key;
            leaves = other.leaves;
            length = other.length;
            System.arraycopy(other.steps, 0, steps, 0, TAPE_MOST);
        }

        void addLeaf(int step) {
            leaves++;
            addStep(step);
        }

        void addSign(int sign) {
            addStep(-sign);
        }

        private void addStep(int step) {
            if (length < steps.length) {
                steps[length] = step;
                length++;
            }
        }
    }

    /** The TEXTS, and the stack on which they are worked out. */
    private static final class Laws {
        final Text[] texts = new Text[TEXTS_MOST];
        private final int[] stack = new int[TAPE_MOST];

        Laws() {
            for (int i = 0; i < texts.length; i++) {
                texts[i] = new Text();
            }
        }

        /** What a TEXT gives for its NAMES' values, in the order in which Tape.namesOf tells them. */
        int work(int text, int a, int b, int c) {
            if (text < 0 || text >= texts.length) {
                return 0;
            }
            Text law = texts[text];
            int top = 0;
            for (int i = 0; i < law.length; i++) {
                int step = law.steps[i];
                if (step >= 0 && top < stack.length) {
                    stack[top] = leaf(step, a, b, c);
                    top++;
                } else if (step == -'!' && top >= 1) {
                    stack[top - 1] = bit(stack[top - 1] == 0);
                } else if (top >= 2) {
                    top--;
                    stack[top - 1] = join(-step, stack[top - 1], stack[top]);
                }
            }
            return stack[0];
        }

        private static int leaf(int step, int a, int b, int c) {
            if (step < Text.NAME) {
                return step;
            }
            if (step == Text.NAME) {
                return a;
            }
            return step == Text.NAME + 1 ? b : c;
        }

        private static int join(int sign, int left, int right) {
            switch (sign) {
                case '|':
                    return bit(left != 0 || right != 0);
                case '&':
                    return bit(left != 0 && right != 0);
                case '<':
                    return bit(left < right);
                case '=':
                    return bit(left == right);
                case '>':
                    return bit(left > right);
                case '+':
                    return left + right;
                case '-':
                    return left - right;
                case '*':
                    return left * right;
                default:
                    return right == 0 ? 0 : left / right;
            }
        }
    }

    /** THE TAPE, and the reading of a TEXT from it: one word or sign is at hand, and where reading stops is the FAULT. */
    private static final class Tape {
        private static final String KEY_WORDS = "neardiesfine";
        private static final int KEY_LENGTH = 4;
        private static final int DIGITS_MOST = 4;
        private static final int OPEN_MOST = 8;
        private static final int LEVELS = 5;
        private static final int COMPARING = 2;

        private static final int END = 0;
        private static final int WORD = 1;
        private static final int NUMBER = 2;
        private static final int SIGN = 3;
        /** A word right behind another one: no TEXT goes on with it. */
        private static final int STUCK = 4;

        private final int[] bytes = new int[TAPE_MOST];
        int length;
        /** Where what is at hand begins and where it is over. */
        int start;
        private int over;
        private int sort;
        final Text draft = new Text();

        /** Callers look ahead whether there is room. */
        void takeFour(int four) {
            for (int shift = 24; shift >= 0 && length < bytes.length; shift -= 8) {
                bytes[length] = four >>> shift & 255;
                length++;
            }
        }

        /** Whether it is a TEXT, which is the draft then; if not, start tells the FAULT. */
        boolean readText() {
            over = 0;
            sort = END;
            advance();
            int key = keyAtHand();
            if (key < 0) {
                return false;
            }
            draft.begin(key);
            advance();
            return readLevel(0, 0, 0) && sort == END;
        }

        private void advance() {
            boolean behindWord = sort == WORD || sort == NUMBER;
            int wordOver = over;
            start = over;
            while (start < length && bytes[start] == ' ') {
                start++;
            }
            if (start >= length) {
                over = length;
                sort = END;
                return;
            }
            sort = sortOf(bytes[start]);
            over = start + 1;
            while (sort != SIGN && over < length && sortOf(bytes[over]) == sort) {
                over++;
            }
            if (behindWord && sort != SIGN && start == wordOver) {
                sort = STUCK;
            }
        }

        private static int sortOf(int sign) {
            if (sign >= 'a' && sign <= 'z') {
                return WORD;
            }
            return sign >= '0' && sign <= '9' ? NUMBER : SIGN;
        }

        private int keyAtHand() {
            if (sort != WORD || over - start != KEY_LENGTH) {
                return -1;
            }
            for (int key = 0; key < KEYS; key++) {
                if (isKeyWord(key * KEY_LENGTH)) {
                    return key;
                }
            }
            return -1;
        }

        private boolean isKeyWord(int from) {
            for (int i = 0; i < KEY_LENGTH; i++) {
                if (KEY_WORDS.charAt(from + i) != bytes[start + i]) {
                    return false;
                }
            }
            return true;
        }

        /**
         * Levels 0 .. 4: OR, AND, TEST, SUM, TERM; behind them a PIECE. At most 8 ( and 8 ! are open, so the
         * recursion stays below 70.
         */
        private boolean readLevel(int level, int opens, int nots) {
            if (level >= LEVELS) {
                return readPiece(opens, nots);
            }
            if (!readLevel(level + 1, opens, nots)) {
                return false;
            }
            int rounds = level == COMPARING ? 1 : TAPE_MOST;
            for (int round = 0; round < rounds && signOfLevel(level); round++) {
                int sign = bytes[start];
                advance();
                if (!readLevel(level + 1, opens, nots)) {
                    return false;
                }
                draft.addSign(sign);
            }
            return true;
        }

        private boolean signOfLevel(int level) {
            switch (level) {
                case 0:
                    return atHand('|');
                case 1:
                    return atHand('&');
                case COMPARING:
                    return atHand('<') || atHand('=') || atHand('>');
                case 3:
                    return atHand('+') || atHand('-');
                default:
                    return atHand('*') || atHand('/');
            }
        }

        private boolean atHand(char sign) {
            return sort == SIGN && start < length && bytes[start] == sign;
        }

        private boolean readPiece(int opens, int nots) {
            if (sort == NUMBER || sort == WORD) {
                return readLeaf();
            }
            if (atHand('!') && nots < OPEN_MOST) {
                advance();
                if (!readPiece(opens, nots + 1)) {
                    return false;
                }
                draft.addSign('!');
                return true;
            }
            if (atHand('(') && opens < OPEN_MOST) {
                advance();
                if (!readLevel(0, opens + 1, nots) || !atHand(')')) {
                    return false;
                }
                advance();
                return true;
            }
            return false;
        }

        private boolean readLeaf() {
            int leaf = sort == NUMBER ? numberAtHand() : nameAtHand();
            if (leaf < 0) {
                return false;
            }
            draft.addLeaf(leaf);
            advance();
            return true;
        }

        private int numberAtHand() {
            if (over - start > DIGITS_MOST) {
                return -1;
            }
            int number = 0;
            for (int i = start; i < over; i++) {
                number = number * 10 + bytes[i] - '0';
            }
            return number;
        }

        private int nameAtHand() {
            int which = over - start == 1 ? namesOf(draft.key).indexOf((char) bytes[start]) : -1;
            return which < 0 ? -1 : Text.NAME + which;
        }

        private static String namesOf(int key) {
            switch (key) {
                case NEAR_KEY:
                    return "dfl";
                case DIES_KEY:
                    return "ak";
                default:
                    return "yp";
            }
        }
    }

    /** A row of shorts or floats. Floats are whole here, so ints hold both; NONE stands for NO NUMBER. */
    private static final class Row {
        int sort = MISSING;
        int size;
        final int[] cells = new int[PLACES_MOST];

        void clear(int newSort, int newSize) {
            sort = newSort;
            size = newSize;
            for (int i = 0; i < cells.length; i++) {
                cells[i] = 0;
            }
        }

        void become(Row other) {
            sort = other.sort;
            size = other.size;
            System.arraycopy(other.cells, 0, cells, 0, PLACES_MOST);
        }

        boolean hasPlace(int place) {
            return place >= 0 && place < size;
        }

        /** No sum of the two is made, since it could wrap. */
        boolean hasPlaces(int place, int many) {
            return place >= 0 && place <= size && many >= 0 && many <= size - place;
        }
    }

    /** What a SLOT holds: of one of PEOPLE what WORTH and KIND need, as it was when it was laid there. */
    private static final class Slot {
        int thing = HOLDS_NOTHING;
        int kind;
        int name;
        int number;
        final Row row = new Row();
    }
}
