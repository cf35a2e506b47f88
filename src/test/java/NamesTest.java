/** Promises 13 to 20: which names are free, the dealing, christening, yielding. */
public final class NamesTest {
    public static void main(String[] args) {
        free();
        frees();
        soonest();
        child();
        dealing();
        dealingPrefersFirsts();
        dealingAmongEquals();
        dealingWithNearLaw();
        dealingWithHeldNames();
        christen();
        christenIntoLittleRoom();
        yields();
        fullValley();
        Due.end();
    }

    private static void free() {
        NotWorn x = new NotWorn();
        x.person(0, 10, -5);
        x.set(0, 3, -1);
        Due.is("free held", x.free(10, 78), 0);
        Due.is("free no more held", x.free(10, 79), 1);
        Due.is("free another", x.free(11, 0), 1);
        Due.text(x, "near d<2");
        Due.is("free near", x.free(11, 78), 0);
        Due.is("free near, later", x.free(11, 79), 1);
        Due.is("free year -999", x.free(10, -999), 0);
        Due.is("free year 99999", x.free(10, 99999), 1);
        Due.is("free year -1000", x.free(10, -1000), Due.BAD);
        Due.is("free year 100000", x.free(10, 100000), Due.BAD);
        Due.is("free name -1", x.free(-1, 0), Due.BAD);
        Due.is("free name 125", x.free(125, 0), Due.BAD);
    }

    private static void frees() {
        NotWorn x = new NotWorn();
        Due.is("frees all", x.frees(0), 125);
        Due.is("frees the first", x.frees(1), 0);
        x.person(0, 0, 0);
        x.person(0, 1, 0);
        x.person(0, 1, 0);
        x.person(5, 2, 0);
        x.set(3, 3, 0);
        Due.is("frees many", x.frees(0), 123);
        Due.is("frees least", x.frees(1), 2);
        Due.text(x, "near d<4");
        Due.is("frees none", x.frees(0), 0);
        Due.is("frees no least", x.frees(1), Due.NONE);
        Due.is("frees what 2", x.frees(2), Due.BAD);
        Due.is("frees what -1", x.frees(-1), Due.BAD);
        Due.text(x, "near f");
        Due.is("frees by first letters", x.frees(0), 100);
        Due.is("frees least by first letters", x.frees(1), 25);
    }

    private static void soonest() {
        NotWorn x = new NotWorn();
        x.years(10);
        x.person(0, 1, 0);
        Due.is("soonest of one alive", x.soonest(1), Due.NONE);
        Due.is("soonest of a free one", x.soonest(2), 10);
        x.set(0, 3, 10);
        Due.is("soonest of one dead", x.soonest(1), 90);
        x.person(1, 3, 10);
        Due.is("soonest of one away", x.soonest(3), 110);
        x.person(3, 4, 10);
        Due.is("soonest of one lost", x.soonest(4), 11);
        x.person(4, 5, -189);
        x.set(3, 3, 10);
        Due.is("soonest of a king", x.soonest(5), Due.NONE);
        x.set(3, 2, -190);
        Due.is("soonest at the last year", x.soonest(5), 310);
        Due.is("soonest 125", x.soonest(125), Due.BAD);
        Due.is("soonest -1", x.soonest(-1), Due.BAD);
        Due.is("soonest changes nothing", x.count(3), 10);
    }

    private static void child() {
        NotWorn x = new NotWorn();
        Due.is("child 125", x.child(125, 0), Due.BAD);
        Due.is("child second 125", x.child(0, 125), Due.BAD);
        Due.is("child -1", x.child(-1, 0), Due.BAD);
        Due.is("child second -1", x.child(0, -1), Due.BAD);
        for (int i = 0; i < 6; i++) {
            Due.is("child", x.child(i, 124 - i), i);
        }
        Due.is("child full", x.child(0, 0), Due.FULL);
        Due.is("child BAD ahead of FULL", x.child(0, 125), Due.BAD);
        Due.is("forget", x.forget(), 6);
        Due.is("forget again", x.forget(), 0);
        Due.is("child again", x.child(0, 0), 0);
    }

    private static void dealing() {
        NotWorn x = new NotWorn();
        Due.is("dealing none", x.dealing(0), 0);
        Due.is("dealing none, firsts", x.dealing(1), 0);
        Due.is("dealing none, child", x.dealing(2), Due.BAD);
        Due.is("dealing -1", x.dealing(-1), Due.BAD);
        x.child(1, 2);
        x.child(1, 3);
        x.child(1, 2);
        shows(x, 3, 1, 1, 3, 2);
        Due.is("dealing a child too many", x.dealing(5), Due.BAD);
        x.child(2, 1);
        shows(x, 3, 2, 1, 3, Due.NONE, 2);
        Due.is("dealing changes nothing", x.count(2), 4);
    }

    /** Most are given a name ahead of most given their first. */
    private static void dealingPrefersFirsts() {
        NotWorn x = new NotWorn();
        x.child(5, 6);
        x.child(5, 5);
        shows(x, 2, 1, 6, 5);
        x.forget();
        x.child(5, 5);
        x.child(5, 6);
        shows(x, 2, 1, 5, 6);
        x.forget();
        x.child(1, 2);
        x.child(2, 3);
        x.child(3, 1);
        shows(x, 3, 3, 1, 2, 3);
    }

    private static void dealingAmongEquals() {
        NotWorn x = new NotWorn();
        x.child(1, 1);
        x.child(1, 1);
        shows(x, 1, 1, 1, Due.NONE);
        x.forget();
        x.child(1, 2);
        x.child(1, 2);
        shows(x, 2, 1, 1, 2);
        x.forget();
        x.child(1, 2);
        x.child(1, 2);
        x.child(1, 2);
        shows(x, 2, 1, 1, 2, Due.NONE);
        x.forget();
        x.child(1, 2);
        x.child(2, 1);
        x.child(2, 1);
        shows(x, 2, 2, 1, 2, Due.NONE);
    }

    private static void dealingWithNearLaw() {
        NotWorn x = new NotWorn();
        Due.text(x, "near d<2");
        x.child(Due.name(0, 0, 0), Due.name(2, 2, 2));
        x.child(Due.name(0, 0, 1), Due.name(0, 1, 0));
        shows(x, 2, 1, Due.name(2, 2, 2), Due.name(0, 0, 1));
        Due.text(x, "near d=1");
        x.forget();
        x.child(7, 7);
        x.child(7, 8);
        shows(x, 2, 2, 7, 7);
        Due.text(x, "near d<9");
        shows(x, 1, 1, 7, Due.NONE);
    }

    private static void dealingWithHeldNames() {
        NotWorn x = new NotWorn();
        x.person(0, 9, 0);
        x.child(9, 8);
        x.child(8, 9);
        shows(x, 1, 1, Due.NONE, 8);
        x.child(9, 9);
        shows(x, 1, 1, Due.NONE, 8, Due.NONE);
        x.set(0, 3, 0);
        x.lifetime(0);
        shows(x, 2, 2, 9, 8, Due.NONE);
    }

    private static void shows(NotWorn x, int given, int firsts, int... names) {
        Due.is("dealing given", x.dealing(0), given);
        Due.is("dealing firsts", x.dealing(1), firsts);
        for (int c = 0; c < names.length; c++) {
            Due.is("dealing child " + c, x.dealing(2 + c), names[c]);
        }
    }

    private static void christen() {
        NotWorn x = new NotWorn();
        x.years(4);
        x.person(2, 50, 0);
        x.child(50, 50);
        x.child(3, 4);
        x.child(3, 5);
        Due.is("christen", x.christen(), 3);
        Due.is("christen: first name", x.told(1, 1), 3);
        Due.is("christen: second name", x.told(2, 1), 5);
        Due.is("christen: kind", x.told(2, 0), 0);
        Due.is("christen: born", x.told(2, 2), 4);
        Due.is("christen: alive", x.told(2, 3), Due.NONE);
        Due.is("christen: no children", x.count(2), 0);
        Due.is("christen nobody", x.christen(), 3);
    }

    private static void christenIntoLittleRoom() {
        NotWorn x = new NotWorn();
        for (int i = 0; i < 8; i++) {
            x.person(0, 100 + i, 0);
        }
        for (int i = 0; i < 5; i++) {
            x.child(i, i);
        }
        Due.is("christen up to 10", x.christen(), 10);
        Due.is("christen: the eighth", x.told(8, 1), 0);
        Due.is("christen: the ninth", x.told(9, 1), 1);
        Due.is("christen: all are no more", x.count(2), 0);
    }

    /** Ten of PEOPLE and six CHILDREN, so that every row is used to its end. */
    private static void fullValley() {
        NotWorn x = new NotWorn();
        for (int i = 0; i < 10; i++) {
            x.person(0, 25 * (i % 5), 0);
        }
        for (int i = 0; i < 6; i++) {
            x.child(0, 1 + i);
        }
        Due.is("full: alive", x.count(1), 10);
        Due.is("full: frees", x.frees(0), 120);
        Due.is("full: yields", x.yields(9), 0b10000);
        shows(x, 6, 0, 1, 2, 3, 4, 5, 6);
        Due.text(x, "near f");
        Due.is("full: frees none", x.frees(0), 0);
        Due.is("full: no least", x.frees(1), Due.NONE);
        Due.is("full: ends", x.ends(), 0);
        shows(x, 0, 0, Due.NONE, Due.NONE, Due.NONE, Due.NONE, Due.NONE, Due.NONE);
        Due.is("full: years", x.years(2), 0);
        Due.is("full: christen", x.christen(), 10);
    }

    private static void yields() {
        NotWorn x = new NotWorn();
        x.person(0, 7, 0);
        x.person(1, 7, 0);
        x.person(5, 7, 0);
        x.person(0, 8, 0);
        x.person(4, 7, 0);
        x.set(4, 3, 0);
        Due.is("yields", x.yields(0), 0b00110);
        Due.is("yields to the second", x.yields(1), 0b00101);
        Due.is("yields to one dead", x.yields(4), 0b00111);
        Due.is("yields to one alone", x.yields(3), 0);
        Due.text(x, "near d=1");
        Due.is("yields by law", x.yields(3), 0b00111);
        Due.is("yields by law to the first", x.yields(0), 0b01000);
        Due.is("yields 5", x.yields(5), Due.BAD);
        Due.is("yields -1", x.yields(-1), Due.BAD);
    }
}
