/** The edges that "Terms" 1 and promises 2 to 12 name: each method is a sentence, quoted above it. */
public final class EdgesPeopleTest {
    public static void main(String[] args) {
        namesAreFrom0To124();
        threeLettersEachFrom0To4();
        nearIfNotZero();
        nearWithoutText();
        term();
        theYear();
        tenPeople();
        bornThisYearAtMost();
        bornAtLeast();
        diedFromBornToThisYear();
        bornBehindDied();
        diedNone();
        kinds();
        kindsUnderOneAnother();
        turnsAndBack();
        whatIsAsked();
        numbersOfPeople();
        oneHolds();
        awayHolds();
        lostHolds();
        saintHolds();
        kingHolds();
        guestHolds();
        holdsInEveryYear();
        toldHoldsInTheYear();
        worth();
        dealAsManyAsThereIsRoomFor();
        drawnPeople();
        drawsWrap();
        seedTakesAll();
        Due.end();
    }

    /** "NAMES are 0 .. 124" */
    private static void namesAreFrom0To124() {
        Edges.range("person: name", 0, 124, v -> new NotWorn().person(0, v, 0), v -> 0);
        Edges.range("person: the name told", 0, 124, v -> Edges.one(0, v, 0).told(0, 1), v -> v);
        Edges.range("set: name", 0, 124, v -> Edges.one(0, 7, 0).set(0, 1, v), v -> 7);
        Edges.range("apart: name", 0, 124, v -> new NotWorn().apart(v, 0), v -> v == 0 ? 0 : 3);
        Edges.range("apart: other", 0, 124, v -> new NotWorn().apart(0, v), v -> v == 0 ? 0 : 3);
        Edges.range("near: name", 0, 124, v -> new NotWorn().near(v, 0), v -> v == 0 ? 1 : 0);
        Edges.range("near: other", 0, 124, v -> new NotWorn().near(124, v), v -> v == 0 ? 0 : 1);
        Edges.range("free: name", 0, 124, v -> Edges.one(0, 124, 0).free(v, 0), v -> v == 0 ? 1 : 0);
        Edges.range("soonest: name", 0, 124, v -> Edges.one(0, 124, 0).soonest(v), v -> v == 0 ? 0 : Due.NONE);
        Edges.range("child: first", 0, 124, v -> new NotWorn().child(v, 0), v -> 0);
        Edges.range("child: second", 0, 124, v -> new NotWorn().child(0, v), v -> 0);
        Edges.range("stays: name", 0, 124, v -> Edges.one(0, 124, 0).stays(v, 0), v -> v == 0 ? 1 : 0);
    }

    /** "three letters, each 0 .. 4 (a NAME is 25 times the first, 5 times the second and the third, together)" */
    private static void threeLettersEachFrom0To4() {
        for (int a = 0; a < 125; a++) {
            NotWorn x = new NotWorn();
            for (int b = 0; b < 125; b++) {
                int unlike = 0;
                for (int by = 1; by <= 25; by *= 5) {
                    unlike += a / by % 5 == b / by % 5 ? 0 : 1;
                }
                Due.is("apart " + a + " and " + b, x.apart(a, b), unlike);
            }
        }
    }

    /** "They are NEAR, if what near gives is not 0"; "Ints wrap" */
    private static void nearIfNotZero() {
        nearGives("0", 0);
        nearGives("1", 1);
        nearGives("0-1", 1);
        nearGives("2", 1);
        nearGives("4096*4096*128", 1);
        nearGives("4096*4096*256", 0);
        nearGives("d+f+l-2", 0);
        nearGives("d+f+l-3", 1);
    }

    private static void nearGives(String law, int due) {
        NotWorn x = new NotWorn();
        Due.text(x, "near " + law);
        Due.is("near itself by " + law, x.near(62, 62), due);
    }

    /** "(without a TEXT: if they are APART by 0)" */
    private static void nearWithoutText() {
        for (int a = 0; a < 125; a++) {
            NotWorn x = new NotWorn();
            for (int b = 0; b < 125; b++) {
                Due.is("near " + a + " and " + b, x.near(a, b), a == b ? 1 : 0);
            }
        }
    }

    /** "TERM is 0 .. 200 (80 at first)" */
    private static void term() {
        Edges.range("lifetime", 0, 200, v -> new NotWorn().lifetime(v), v -> 80);
        for (int v : new int[] {0, 200}) {
            NotWorn x = new NotWorn();
            x.lifetime(v);
            Due.is("TERM " + v, x.count(4), v);
            Due.is("TERM " + v + " was", x.lifetime(80), v);
        }
    }

    /** "THE YEAR is 0 at first, 9999 at most" */
    private static void theYear() {
        NotWorn x = Edges.inYear(9998);
        Due.is("9998: a year", x.years(1), 0);
        Due.is("9999", x.count(3), 9999);
        x.person(0, 1, 9000);
        Due.is("9999: no year more", x.years(100), 0);
        Due.is("9999: still", x.count(3), 9999);
        Due.is("9999: nobody dies", x.told(0, 3), Due.NONE);
        Due.is("9999: no draw", x.count(8), 1);
    }

    /** "PEOPLE, 10 at most, numbered from 0"; person: "FULL" */
    private static void tenPeople() {
        NotWorn x = new NotWorn();
        for (int i = 0; i < 10; i++) {
            Due.is("one more", x.person(i % 6, 10 * i, -i), i);
        }
        Due.is("the eleventh", x.person(0, 0, 0), Due.FULL);
        for (int i = 0; i < 10; i++) {
            Due.is("kind of " + i, x.told(i, 0), i % 6);
            Due.is("name of " + i, x.told(i, 1), 10 * i);
            Due.is("birth of " + i, x.told(i, 2), -i);
        }
        Due.is("ten", x.count(0), 10);
        Due.is("the tenth is the last", x.told(10, 0), Due.BAD);
    }

    /** "BORN (a year, THE YEAR at most" */
    private static void bornThisYearAtMost() {
        Edges.range("born at first", -999, 0, v -> new NotWorn().person(0, 0, v), v -> 0);
        Edges.range("born in 7", -999, 7, v -> Edges.inYear(7).person(0, 0, v), v -> 0);
        Edges.range("born in 9999", -999, 9999, v -> Edges.inTheLastYear().person(0, 0, v), v -> 0);
        Edges.range("set born in 7", -999, 7, EdgesPeopleTest::setBornIn7, v -> 3);
    }

    private static int setBornIn7(int v) {
        NotWorn x = Edges.inYear(7);
        x.person(0, 0, 3);
        int answer = x.set(0, 2, v);
        Due.is("set born " + v + ": told", x.told(0, 2), answer == Due.BAD ? 3 : v);
        return answer;
    }

    /** "below 0, too, -999 at least" */
    private static void bornAtLeast() {
        NotWorn x = Edges.one(0, 0, -999);
        Due.is("born -999", x.told(0, 2), -999);
        Due.is("died when born, -999", x.set(0, 3, -999), Due.NONE);
        Due.is("died -1000", x.set(0, 3, -1000), Due.BAD);
        Due.is("died -999", x.told(0, 3), -999);
    }

    /** "DIED (a year, from BORN to THE YEAR" */
    private static void diedFromBornToThisYear() {
        Edges.range("died", 3, 7, v -> bornIn3NowIn7().set(0, 3, v), v -> Due.NONE);
        for (int died : new int[] {3, 7}) {
            NotWorn x = bornIn3NowIn7();
            x.set(0, 3, died);
            Due.is("died " + died, x.told(0, 3), died);
            Due.is("died " + died + " was", x.set(0, 3, 5), died);
        }
        NotWorn y = Edges.one(0, 0, 0);
        Due.is("born and died in THE YEAR", y.set(0, 3, 0), Due.NONE);
        NotWorn z = Edges.inTheLastYear();
        z.person(0, 0, 9999);
        Due.is("died in 9999", z.set(0, 3, 9999), Due.NONE);
        Due.is("died in 10000", z.set(0, 3, 10000), Due.BAD);
    }

    private static NotWorn bornIn3NowIn7() {
        NotWorn x = Edges.inYear(7);
        x.person(0, 0, 3);
        return x;
    }

    /** set: "BAD (also BORN behind DIED)" */
    private static void bornBehindDied() {
        NotWorn x = bornIn3NowIn7();
        x.set(0, 3, 5);
        Due.is("born behind died", x.set(0, 2, 6), Due.BAD);
        Due.is("born stays", x.told(0, 2), 3);
        Due.is("born when died", x.set(0, 2, 5), 3);
        Due.is("born least", x.set(0, 2, -999), 5);
        x.set(0, 3, Due.NONE);
        Due.is("alive: born in THE YEAR", x.set(0, 2, 7), -999);
        Due.is("died ahead of that", x.set(0, 3, 6), Due.BAD);
    }

    /** set: "DIED (3; NONE: alive) of one becomes v: what it was (NONE)" */
    private static void diedNone() {
        NotWorn x = Edges.one(0, 0, 0);
        Due.is("alive again", x.set(0, 3, Due.NONE), Due.NONE);
        Due.is("NONE less 1", x.set(0, 3, Due.NONE - 1), Due.BAD);
        Due.is("NONE and 1", x.set(0, 3, Due.NONE + 1), Due.BAD);
        Due.is("a death", x.set(0, 3, 0), Due.NONE);
        Due.is("one dead, told", x.told(0, 3), 0);
        Due.is("alive no more", x.count(1), 0);
        Due.is("came back", x.set(0, 3, Due.NONE), 0);
        Due.is("alive", x.count(1), 1);
        Due.is("NONE as a name", x.set(0, 1, Due.NONE), Due.BAD);
        Due.is("NONE as a birth", x.set(0, 2, Due.NONE), Due.BAD);
    }

    /** "of KINDS: 0 ONE; 1 AWAY, 2 SAINT, 5 GUEST, under ONE; 3 LOST, under AWAY; 4 KING, under SAINT" */
    private static void kinds() {
        Edges.range("person: kind", 0, 5, v -> new NotWorn().person(v, 0, 0), v -> 0);
        Edges.range("as: kind", 0, 5, v -> Edges.one(v == 5 ? 5 : 0, 9, 0).as(0, v), v -> 9);
        Edges.range("turns: kind", 0, 5, v -> Edges.one(3, 0, 0).turns(0, v), v -> 3);
        Edges.range("ask: kind", 0, 5, EdgesPeopleTest::asked, v -> v == 5 ? 3 : 9);
    }

    private static int asked(int kind) {
        NotWorn x = Edges.one(kind == 5 ? 5 : 0, 9, 0);
        x.lay(0, 1, 0);
        return x.ask(0, kind);
    }

    /** as: "KIND: it is not of that KIND, nor of one under it" */
    private static void kindsUnderOneAnother() {
        int[] under = {0b000001, 0b000011, 0b000101, 0b001011, 0b010101, 0b100001};
        for (int kind = 0; kind < 6; kind++) {
            NotWorn x = Edges.one(kind, 40 + kind, 0);
            for (int asked = 0; asked < 6; asked++) {
                boolean is = (under[kind] >> asked & 1) != 0;
                Due.is("as: " + kind + " for " + asked, x.as(0, asked), is ? 40 + kind : Due.KIND);
            }
            for (int beyond : new int[] {-1, 6}) {
                Due.is("as: " + kind + " for " + beyond, x.as(0, beyond), Due.BAD);
            }
        }
    }

    /** turns: "One is of another KIND from now on: what it was." */
    private static void turnsAndBack() {
        NotWorn x = Edges.one(0, 5, 0);
        int was = 0;
        for (int kind : new int[] {5, 5, 4, 3, 2, 1, 0}) {
            Due.is("turns to " + kind, x.turns(0, kind), was);
            Due.is("turned to " + kind, x.told(0, 0), kind);
            was = kind;
        }
    }

    /** told: "what 0 .. 5", "BAD"; set: what 1, 2, 3, "BAD" */
    private static void whatIsAsked() {
        Edges.range("told: what", 0, 5, v -> Edges.one(0, 30, -2).told(0, v), v -> v == 0 ? 0 : 30);
        Edges.range("set: what", 1, 3, v -> Edges.one(0, 30, -2).set(0, v, 0), v -> v == 1 ? 30 : Due.NONE);
    }

    /** "BAD: person" */
    private static void numbersOfPeople() {
        for (int many : new int[] {1, 10}) {
            Edges.range("told of " + many, 0, many - 1, v -> Edges.people(many).told(v, 1), v -> 100 + v);
            Edges.range("as of " + many, 0, many - 1, v -> Edges.people(many).as(v, 0), v -> 100 + v);
            Edges.range("turns of " + many, 0, many - 1, v -> Edges.people(many).turns(v, 3), v -> 0);
            Edges.range("set of " + many, 0, many - 1, v -> Edges.people(many).set(v, 1, 0), v -> 100 + v);
            Edges.range("holds of " + many, 0, many - 1, v -> Edges.people(many).holds(v, 0), v -> 1);
            Edges.range("yields of " + many, 0, many - 1, v -> Edges.people(many).yields(v), v -> 0);
            Edges.range("lay of " + many, 0, many - 1, v -> Edges.people(many).lay(0, 1, v), v -> 0);
        }
        NotWorn x = new NotWorn();
        Due.is("nobody: told", x.told(0, 0), Due.BAD);
        Due.is("nobody: as", x.as(0, 0), Due.BAD);
        Due.is("nobody: turns", x.turns(0, 0), Due.BAD);
        Due.is("nobody: set", x.set(0, 1, 0), Due.BAD);
        Due.is("nobody: holds", x.holds(0, 0), Due.BAD);
        Due.is("nobody: yields", x.yields(0), Due.BAD);
        Due.is("nobody: lay", x.lay(0, 1, 0), Due.BAD);
    }

    /** The last year in which one holds, and the next, in which it doesn't. */
    private static void holdsUntil(String what, NotWorn x, int last) {
        Due.is(what + " holds in " + last, x.holds(0, last), 1);
        Due.is(what + " holds in " + (last + 1), x.holds(0, last + 1), 0);
    }

    private static NotWorn dead(int kind, int born, int died, int term) {
        NotWorn x = Edges.one(kind, 0, born);
        x.set(0, 3, died);
        x.lifetime(term);
        return x;
    }

    /** "ONE: if it is alive, or y less DIED is below TERM" */
    private static void oneHolds() {
        holdsUntil("ONE, TERM 0", dead(0, -30, -10, 0), -11);
        holdsUntil("ONE, TERM 1", dead(0, -30, -10, 1), -10);
        holdsUntil("ONE, TERM 80", dead(0, -30, -10, 80), 69);
        holdsUntil("ONE, TERM 200", dead(0, -30, -10, 200), 189);
        Due.is("ONE ahead of its birth", dead(0, -30, -10, 80).holds(0, -999), 1);
        Due.is("ONE dead in the last year asked", dead(0, -30, -10, 80).holds(0, 99999), 0);
        Due.is("ONE alive in the last year asked", Edges.one(0, 0, -999).holds(0, 99999), 1);
        NotWorn y = Edges.inTheLastYear();
        y.person(0, 0, 9999);
        y.set(0, 3, 9999);
        holdsUntil("ONE, died in 9999", y, 10078);
        Due.is("ONE, died in 9999, in -999", y.holds(0, -999), 1);
    }

    /** "AWAY: as ONE, and if y less BORN is below 100" */
    private static void awayHolds() {
        holdsUntil("AWAY alive", Edges.one(1, 0, -40), 59);
        holdsUntil("AWAY alive, born -999", Edges.one(1, 0, -999), -900);
        holdsUntil("AWAY dead, TERM first", dead(1, -40, -30, 80), 49);
        holdsUntil("AWAY dead, birth first", dead(1, -40, -10, 80), 59);
        holdsUntil("AWAY dead, both at once", dead(1, -40, -20, 80), 59);
        Due.is("AWAY ahead of its birth", Edges.one(1, 0, -40).holds(0, -999), 1);
    }

    /** "LOST: as AWAY, and if it is not alive, or y is even" */
    private static void lostHolds() {
        NotWorn x = Edges.one(3, 0, -40);
        int[][] years = {{-999, 0}, {-998, 1}, {-41, 0}, {-2, 1}, {-1, 0}, {0, 1}, {1, 0}, {2, 1}, {57, 0}, {58, 1},
            {59, 0}, {60, 0}, {99998, 0}};
        for (int[] year : years) {
            Due.is("LOST alive in " + year[0], x.holds(0, year[0]), year[1]);
        }
        holdsUntil("LOST dead, birth first", dead(3, -40, -10, 80), 59);
        holdsUntil("LOST dead, TERM first", dead(3, -40, -31, 80), 48);
        holdsUntil("LOST dead, TERM first, odd", dead(3, -40, -30, 80), 49);
        Due.is("LOST dead in an odd year below 0", dead(3, -40, -10, 80).holds(0, -999), 1);
    }

    /** "SAINT: as ONE, or if y less DIED is below 200" */
    private static void saintHolds() {
        holdsUntil("SAINT, TERM 0", dead(2, -30, -10, 0), 189);
        holdsUntil("SAINT, TERM 80", dead(2, -30, -10, 80), 189);
        holdsUntil("SAINT, TERM 200", dead(2, -30, -10, 200), 189);
        Due.is("SAINT alive", Edges.one(2, 0, -999).holds(0, 99999), 1);
    }

    /** "KING: as SAINT, or if y less BORN is below 500" */
    private static void kingHolds() {
        holdsUntil("KING, by its birth", dead(4, -30, -10, 0), 469);
        holdsUntil("KING, by its death", dead(4, -600, -10, 0), 189);
        holdsUntil("KING, both at once", dead(4, -310, -10, 80), 189);
        holdsUntil("KING, its birth one later", dead(4, -309, -10, 80), 190);
        holdsUntil("KING, its birth one sooner", dead(4, -311, -10, 80), 189);
        Due.is("KING alive", Edges.one(4, 0, -999).holds(0, 99999), 1);
    }

    /** "GUEST: if it is alive" */
    private static void guestHolds() {
        Due.is("GUEST alive", Edges.one(5, 0, 0).holds(0, 99999), 1);
        Due.is("GUEST alive ahead of its birth", Edges.one(5, 0, 0).holds(0, -999), 1);
        for (int year : new int[] {-999, -11, -10, -9, 99999}) {
            Due.is("GUEST dead in " + year, dead(5, -30, -10, 200).holds(0, year), 0);
        }
    }

    /** holds: "in a year (-999 .. 99999)"; free likewise */
    private static void holdsInEveryYear() {
        for (int kind = 0; kind < 6; kind++) {
            NotWorn x = Edges.one(kind, 0, 0);
            Due.is("holds in -998, KIND " + kind, x.holds(0, -998), 1);
            Due.is("holds in 99998, KIND " + kind, x.holds(0, 99998), kind == 1 || kind == 3 ? 0 : 1);
            Due.is("holds in -1000, KIND " + kind, x.holds(0, -1000), Due.BAD);
            Due.is("holds in 100000, KIND " + kind, x.holds(0, 100000), Due.BAD);
        }
        Edges.range("holds: year", -999, 99999, v -> Edges.one(0, 0, 0).holds(0, v), v -> 1);
        Edges.range("free: year", -999, 99999, v -> Edges.one(1, 0, 0).free(0, v), v -> v < 0 ? 0 : 1);
    }

    /** told: "4 whether it HOLDS in THE YEAR (1, 0)" */
    private static void toldHoldsInTheYear() {
        NotWorn x = Edges.one(1, 0, 0);
        Due.text(x, "dies 0");
        x.years(99);
        Due.is("told holds in 99", x.told(0, 4), 1);
        x.years(1);
        Due.is("told holds in 100", x.told(0, 4), 0);
    }

    /** "WORTH: ONE: NAME. AWAY: as ONE, and 7. LOST: twice as AWAY. SAINT: 200 less NAME. KING .. less 9. GUEST: 3." */
    private static void worth() {
        int[][] worths = {{0, 124}, {7, 131}, {200, 76}, {14, 262}, {191, 67}, {3, 3}};
        for (int kind = 0; kind < 6; kind++) {
            Due.is("worth of 0 as " + kind, Edges.one(kind, 0, 0).told(0, 5), worths[kind][0]);
            Due.is("worth of 124 as " + kind, Edges.one(kind, 124, 0).told(0, 5), worths[kind][1]);
        }
    }

    /** deal: "n (1 .. 10) of them, as many as there is room for (no draws for others): how many came. BAD." */
    private static void dealAsManyAsThereIsRoomFor() {
        Edges.range("deal", 1, 10, v -> new NotWorn().deal(v), v -> v);
        for (int many = 0; many <= 10; many++) {
            NotWorn x = Edges.people(many);
            Due.is("deal 10 beside " + many, x.deal(10), 10 - many);
            int z = 1;
            for (int i = 0; i < 3 * (10 - many); i++) {
                z = Edges.nextZ(z);
            }
            Due.is("draws beside " + many, x.count(8), z);
            Due.is("ten behind " + many, x.count(0), 10);
            Due.is("deal 1 beside 10", x.deal(1), 0);
            Due.is("no draw more", x.count(8), z);
        }
        Due.is("deal BAD beside 10", Edges.people(10).deal(0), Due.BAD);
        Due.is("deal BAD beside 10, 11", Edges.people(10).deal(11), Due.BAD);
    }

    /** "KIND the rest of a draw by 6, NAME that of one more by 125, BORN THE YEAR less that of one more by 90; alive" */
    private static void drawnPeople() {
        for (int rest : new int[] {0, 5}) {
            NotWorn x = new NotWorn();
            x.seed(Edges.seedFor(6, rest));
            x.deal(1);
            Due.is("drawn KIND " + rest, x.told(0, 0), rest);
            Due.is("drawn one is alive", x.told(0, 3), Due.NONE);
        }
        for (int place = 1; place <= 2; place++) {
            int by = place == 1 ? 125 : 90;
            for (int rest : new int[] {0, by - 1}) {
                NotWorn x = Edges.inYear(4);
                x.seed(seedForLater(place, by, rest));
                x.deal(1);
                Due.is("drawn " + place + ", rest " + rest, x.told(0, place), place == 1 ? rest : 4 - rest);
            }
        }
    }

    /** A z whose second (or third) draw has the rest. */
    private static int seedForLater(int draws, int by, int rest) {
        for (int z = 0; z < 1000000; z++) {
            int then = z;
            for (int i = 0; i < draws; i++) {
                then = Edges.nextZ(then);
            }
            if (Edges.nextZ(then) < 0 && Edges.drawn(then) % by == rest) {
                return z;
            }
        }
        Due.holds("a seed for draw " + draws, false);
        return 0;
    }

    /** "z becomes z * 1103515245 + 12345 (an int); it gives z >>> 8" */
    private static void drawsWrap() {
        for (int seed : new int[] {Integer.MIN_VALUE, Integer.MAX_VALUE, -1, 0, 1, 2}) {
            NotWorn x = new NotWorn();
            x.seed(seed);
            x.deal(1);
            long z = seed;
            int[] bys = {6, 125, 90};
            for (int i = 0; i < 3; i++) {
                z = z * 1103515245L + 12345L & 0xffffffffL;
                int rest = (int) ((z >> 8) % bys[i]);
                Due.is("draw " + i + " from " + seed, x.told(0, i), i == 2 ? -rest : rest);
            }
            Due.is("z from " + seed, x.count(8), (int) z);
        }
    }

    /** seed: "z becomes v: what it was." */
    private static void seedTakesAll() {
        NotWorn x = new NotWorn();
        int was = 1;
        for (int v : new int[] {Integer.MIN_VALUE, Integer.MAX_VALUE, Due.BAD, Due.NONE, -1, 0}) {
            Due.is("seed " + v, x.seed(v), was);
            Due.is("z " + v, x.count(8), v);
            was = v;
        }
    }
}
