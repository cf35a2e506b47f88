/** Promises 1 to 12: a new object, people, their kinds, nearness, TERM, lots. */
public final class PeopleTest {
    public static void main(String[] args) {
        newObject();
        person();
        told();
        as();
        turns();
        set();
        holds();
        holdsWithOtherTerms();
        apart();
        near();
        lifetime();
        deal();
        seed();
        Due.end();
    }

    /** "As told; nobody." */
    private static void newObject() {
        NotWorn x = new NotWorn();
        int[] counts = {0, 0, 0, 0, 80, 0, 0, 0, 1};
        for (int what = 0; what < counts.length; what++) {
            Due.is("new: count " + what, x.count(what), counts[what]);
        }
        Due.is("new: told", x.told(0, 0), Due.BAD);
        Due.is("new: frees", x.frees(0), 125);
        Due.is("new: fine", x.fine(), 0);
        Due.is("new: ends", x.ends(), Due.NONE);
        Due.is("new: back", x.back(), Due.NO);
        Due.is("new: no child", x.dealing(2), Due.BAD);
        Due.is("new: no text", x.textTold(0, 0), Due.BAD);
        for (int key = 0; key < 3; key++) {
            Due.is("new: why", x.why(key), Due.NONE);
        }
        for (int sheet = 0; sheet < 4; sheet++) {
            Due.is("new: reads", x.reads(sheet), Due.NOTHING);
        }
        for (int slot = 0; slot < 5; slot++) {
            Due.is("new: ask", x.ask(slot, 0), Due.NOTHING);
            Due.is("new: rest", x.rest(slot, 0), Due.NOTHING);
        }
    }

    private static void person() {
        NotWorn x = new NotWorn();
        Due.is("person kind -1", x.person(-1, 0, 0), Due.BAD);
        Due.is("person kind 6", x.person(6, 0, 0), Due.BAD);
        Due.is("person name -1", x.person(0, -1, 0), Due.BAD);
        Due.is("person name 125", x.person(0, 125, 0), Due.BAD);
        Due.is("person born late", x.person(0, 0, 1), Due.BAD);
        Due.is("person born early", x.person(0, 0, -1000), Due.BAD);
        Due.is("person none yet", x.count(0), 0);
        Due.is("person edges", x.person(5, 124, -999), 0);
        for (int i = 1; i < 10; i++) {
            Due.is("person " + i, x.person(i % 6, i, 0), i);
        }
        Due.is("person full", x.person(0, 0, 0), Due.FULL);
        Due.is("person BAD ahead of FULL", x.person(0, 125, 0), Due.BAD);
        Due.is("person count", x.count(0), 10);
        x.years(1);
        NotWorn y = new NotWorn();
        y.years(3);
        Due.is("person born in THE YEAR", y.person(0, 0, 3), 0);
        Due.is("person born behind it", y.person(0, 0, 4), Due.BAD);
    }

    private static void told() {
        NotWorn x = new NotWorn();
        int[] worths = {50, 57, 150, 114, 141, 3};
        for (int kind = 0; kind < 6; kind++) {
            x.person(kind, 50, -10);
            Due.is("told kind", x.told(kind, 0), kind);
            Due.is("told name", x.told(kind, 1), 50);
            Due.is("told born", x.told(kind, 2), -10);
            Due.is("told died", x.told(kind, 3), Due.NONE);
            Due.is("told holds", x.told(kind, 4), 1);
            Due.is("told worth of " + kind, x.told(kind, 5), worths[kind]);
        }
        x.set(5, 3, 0);
        Due.is("told: a dead guest", x.told(5, 4), 0);
        Due.is("told: its death", x.told(5, 3), 0);
        Due.is("told person -1", x.told(-1, 0), Due.BAD);
        Due.is("told person 6", x.told(6, 0), Due.BAD);
        Due.is("told what -1", x.told(0, -1), Due.BAD);
        Due.is("told what 6", x.told(0, 6), Due.BAD);
    }

    private static void as() {
        boolean[][] of = {
            {true, false, false, false, false, false},
            {true, true, false, false, false, false},
            {true, false, true, false, false, false},
            {true, true, false, true, false, false},
            {true, false, true, false, true, false},
            {true, false, false, false, false, true}};
        NotWorn x = new NotWorn();
        for (int kind = 0; kind < 6; kind++) {
            x.person(kind, 20 + kind, 0);
            for (int asked = 0; asked < 6; asked++) {
                int due = of[kind][asked] ? 20 + kind : Due.KIND;
                Due.is("as " + kind + " for " + asked, x.as(kind, asked), due);
            }
        }
        Due.is("as person 6", x.as(6, 0), Due.BAD);
        Due.is("as kind 6", x.as(0, 6), Due.BAD);
        Due.is("as kind -1", x.as(0, -1), Due.BAD);
    }

    private static void turns() {
        NotWorn x = new NotWorn();
        x.person(3, 10, 0);
        Due.is("turns", x.turns(0, 4), 3);
        Due.is("turns: as a king", x.as(0, 2), 10);
        Due.is("turns: no longer away", x.as(0, 1), Due.KIND);
        Due.is("turns: worth", x.told(0, 5), 181);
        Due.is("turns again", x.turns(0, 0), 4);
        Due.is("turns kind 6", x.turns(0, 6), Due.BAD);
        Due.is("turns kind -1", x.turns(0, -1), Due.BAD);
        Due.is("turns person 1", x.turns(1, 0), Due.BAD);
        Due.is("turns: kept", x.told(0, 0), 0);
    }

    private static void set() {
        NotWorn x = new NotWorn();
        x.years(20);
        x.person(0, 10, 5);
        Due.is("set name", x.set(0, 1, 124), 10);
        Due.is("set name 125", x.set(0, 1, 125), Due.BAD);
        Due.is("set name -1", x.set(0, 1, -1), Due.BAD);
        Due.is("set name NONE", x.set(0, 1, Due.NONE), Due.BAD);
        Due.is("set name stays", x.told(0, 1), 124);
        Due.is("set died ahead of born", x.set(0, 3, 4), Due.BAD);
        Due.is("set died behind THE YEAR", x.set(0, 3, 21), Due.BAD);
        Due.is("set died", x.set(0, 3, 5), Due.NONE);
        Due.is("set died late", x.set(0, 3, 20), 5);
        Due.is("set died between", x.set(0, 3, 12), 20);
        Due.is("set born behind died", x.set(0, 2, 13), Due.BAD);
        Due.is("set born", x.set(0, 2, 12), 5);
        Due.is("set born early", x.set(0, 2, -999), 12);
        Due.is("set born too early", x.set(0, 2, -1000), Due.BAD);
        Due.is("set born NONE", x.set(0, 2, Due.NONE), Due.BAD);
        Due.is("set alive", x.set(0, 3, Due.NONE), 12);
        Due.is("set alive again", x.set(0, 3, Due.NONE), Due.NONE);
        Due.is("set born THE YEAR", x.set(0, 2, 20), -999);
        Due.is("set born behind THE YEAR", x.set(0, 2, 21), Due.BAD);
        Due.is("set what 0", x.set(0, 0, 1), Due.BAD);
        Due.is("set what 4", x.set(0, 4, 1), Due.BAD);
        Due.is("set person 1", x.set(1, 1, 1), Due.BAD);
        Due.is("set person -1", x.set(-1, 1, 1), Due.BAD);
        Due.is("set born stays", x.told(0, 2), 20);
    }

    private static void holds() {
        NotWorn x = new NotWorn();
        for (int kind = 0; kind < 6; kind++) {
            x.person(kind, kind, -50);
        }
        boundary(x, 0, 99999, true, true);
        boundary(x, 2, 99999, true, true);
        boundary(x, 4, 99999, true, true);
        boundary(x, 5, 99999, true, true);
        boundary(x, 1, 49, true, false);
        Due.is("lost alive, even", x.holds(3, 48), 1);
        Due.is("lost alive, odd", x.holds(3, 49), 0);
        Due.is("lost alive, odd below 0", x.holds(3, -999), 0);
        Due.is("lost alive, even below 0", x.holds(3, -998), 1);
        Due.is("lost alive, long ago", x.holds(3, 50), 0);
        for (int kind = 0; kind < 6; kind++) {
            x.set(kind, 3, -10);
        }
        boundary(x, 0, 69, true, false);
        boundary(x, 1, 49, true, false);
        boundary(x, 2, 189, true, false);
        boundary(x, 3, 49, true, false);
        boundary(x, 4, 449, true, false);
        Due.is("guest dead", x.holds(5, -10), 0);
        Due.is("guest dead, ahead of it", x.holds(5, -999), 0);
        Due.is("one ahead of its birth", x.holds(0, -999), 1);
        Due.is("holds year -1000", x.holds(0, -1000), Due.BAD);
        Due.is("holds year 100000", x.holds(0, 100000), Due.BAD);
        Due.is("holds person 6", x.holds(6, 0), Due.BAD);
        Due.is("holds person -1", x.holds(-1, 0), Due.BAD);
    }

    private static void holdsWithOtherTerms() {
        NotWorn x = new NotWorn();
        x.person(0, 1, -3);
        x.person(2, 2, -3);
        x.person(3, 3, -3);
        for (int i = 0; i < 3; i++) {
            x.set(i, 3, -2);
        }
        x.lifetime(0);
        Due.is("term 0, in the year of death", x.holds(0, -2), 0);
        Due.is("term 0, the year ahead", x.holds(0, -3), 1);
        boundary(x, 1, 197, true, false);
        Due.is("term 0, lost", x.holds(2, -2), 0);
        x.lifetime(200);
        boundary(x, 0, 197, true, false);
        boundary(x, 1, 197, true, false);
        boundary(x, 2, 96, true, false);
        x.lifetime(1);
        boundary(x, 2, -2, true, false);
    }

    private static void boundary(NotWorn x, int person, int last, boolean then, boolean later) {
        Due.is("person " + person + " holds in " + last, x.holds(person, last), then ? 1 : 0);
        if (last < 99999) {
            Due.is("person " + person + " holds behind " + last, x.holds(person, last + 1), later ? 1 : 0);
        }
    }

    private static void apart() {
        NotWorn x = new NotWorn();
        Due.is("apart by 0", x.apart(77, 77), 0);
        Due.is("apart by the first", x.apart(Due.name(0, 1, 2), Due.name(3, 1, 2)), 1);
        Due.is("apart by the second", x.apart(Due.name(0, 1, 2), Due.name(0, 4, 2)), 1);
        Due.is("apart by the last", x.apart(Due.name(0, 1, 2), Due.name(0, 1, 3)), 1);
        Due.is("apart by two", x.apart(Due.name(0, 1, 2), Due.name(0, 2, 1)), 2);
        Due.is("apart by all", x.apart(Due.name(0, 1, 2), Due.name(1, 2, 0)), 3);
        Due.is("apart 125", x.apart(125, 0), Due.BAD);
        Due.is("apart other 125", x.apart(0, 125), Due.BAD);
        Due.is("apart -1", x.apart(-1, 0), Due.BAD);
        Due.is("apart other -1", x.apart(0, -1), Due.BAD);
    }

    private static void near() {
        NotWorn x = new NotWorn();
        Due.is("near itself", x.near(3, 3), 1);
        Due.is("near another", x.near(3, 4), 0);
        Due.is("near 125", x.near(125, 0), Due.BAD);
        Due.is("near -1", x.near(-1, 0), Due.BAD);
        Due.is("near other 125", x.near(0, 125), Due.BAD);
        Due.is("near other -1", x.near(0, -1), Due.BAD);
        Due.text(x, "near d = 1 & f");
        Due.is("near law: itself no more", x.near(3, 3), 0);
        Due.is("near law: first alike", x.near(Due.name(1, 2, 3), Due.name(1, 2, 4)), 1);
        Due.is("near law: first unlike", x.near(Due.name(1, 2, 3), Due.name(2, 2, 3)), 0);
        Due.text(x, "near l*7-7");
        Due.is("near law: last alike", x.near(Due.name(1, 2, 3), Due.name(4, 4, 3)), 0);
        Due.is("near law: below 0 is true", x.near(Due.name(1, 2, 3), Due.name(4, 4, 2)), 1);
    }

    private static void lifetime() {
        NotWorn x = new NotWorn();
        Due.is("lifetime", x.lifetime(0), 80);
        Due.is("lifetime 200", x.lifetime(200), 0);
        Due.is("lifetime 201", x.lifetime(201), Due.BAD);
        Due.is("lifetime -1", x.lifetime(-1), Due.BAD);
        Due.is("lifetime kept", x.count(4), 200);
    }

    private static void deal() {
        NotWorn x = new NotWorn();
        x.seed(99);
        x.years(7);
        Due.is("deal 0", x.deal(0), Due.BAD);
        Due.is("deal 11", x.deal(11), Due.BAD);
        Due.is("deal", x.deal(3), 3);
        int z = 99;
        for (int i = 0; i < 3; i++) {
            z = z * 1103515245 + 12345;
            Due.is("deal kind", x.told(i, 0), (z >>> 8) % 6);
            z = z * 1103515245 + 12345;
            Due.is("deal name", x.told(i, 1), (z >>> 8) % 125);
            z = z * 1103515245 + 12345;
            Due.is("deal born", x.told(i, 2), 7 - (z >>> 8) % 90);
            Due.is("deal alive", x.told(i, 3), Due.NONE);
        }
        Due.is("deal z", x.count(8), z);
        Due.is("deal into room", x.deal(10), 7);
        int full = x.count(8);
        Due.is("deal without room", x.deal(1), 0);
        Due.is("deal without draws", x.count(8), full);
    }

    private static void seed() {
        NotWorn x = new NotWorn();
        Due.is("seed", x.seed(Integer.MIN_VALUE), 1);
        Due.is("seed again", x.seed(0), Integer.MIN_VALUE);
        Due.is("seed kept", x.count(8), 0);
    }
}
