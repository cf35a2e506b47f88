/** The edges that "Terms" 1 to 3 name for names and children, promises 13 to 20: each method is a sentence. */
public final class EdgesNamesTest {
    public static void main(String[] args) {
        freeIfNoneHoldsThen();
        freeGoesByNearForIt();
        freesAllAndNone();
        freesWhat();
        soonestFirstAndLast();
        soonestIfNobodyDied();
        soonestBeyondTheLastYear();
        sixChildren();
        forgetNone();
        dealingWhat();
        dealingNothing();
        dealingOnlyFreeWishes();
        dealingNoTwoNear();
        dealingMostAheadOfFirsts();
        dealingFirstsAheadOfOrder();
        dealingByOrder();
        dealingTheSameWishTwice();
        dealingSix();
        dealingInTheYear();
        christeningUpToTen();
        christeningNobody();
        christenedOnes();
        yieldsByBits();
        yieldsOnlyTheLiving();
        Due.end();
    }

    private static void names(String what, NotWorn x, int... due) {
        for (int i = 0; i < due.length; i++) {
            Due.is(what + ", dealing " + i, x.dealing(i), due[i]);
        }
        Due.is(what + ", dealing behind the last", x.dealing(due.length), Due.BAD);
    }

    private static void children(NotWorn x, int... wishes) {
        for (int i = 0; i < wishes.length; i += 2) {
            x.child(wishes[i], wishes[i + 1]);
        }
    }

    /** "A NAME is FREE in a year, if none of PEOPLE that HOLDS then has a NAME that is NEAR it" */
    private static void freeIfNoneHoldsThen() {
        Due.is("nobody: free", new NotWorn().free(0, 0), 1);
        NotWorn x = Edges.people(10);
        for (int i = 0; i < 10; i++) {
            Due.is("held by " + i, x.free(100 + i, 0), 0);
        }
        Due.is("held by none", x.free(99, 0), 1);
        Due.is("held by none of ten", x.free(110, 0), 1);
        NotWorn y = Edges.one(0, 5, 0);
        y.person(5, 5, 0);
        y.set(0, 3, 0);
        y.set(1, 3, 0);
        Due.is("two dead, the first holds", y.free(5, 79), 0);
        Due.is("two dead, none holds", y.free(5, 80), 1);
        y.set(1, 3, Due.NONE);
        Due.is("the second holds", y.free(5, 80), 0);
    }

    /** "(as near gives for it and theirs)" */
    private static void freeGoesByNearForIt() {
        NotWorn x = Edges.one(0, 0, 0);
        Due.text(x, "near d=3");
        Due.is("its own is free", x.free(0, 0), 1);
        Due.is("one apart by 2 is free", x.free(6, 0), 1);
        Due.is("one apart by 3 is not", x.free(31, 0), 0);
        Due.text(x, "near 0");
        Due.is("none is near", x.frees(0), 125);
    }

    /** frees: "How many NAMES are FREE in THE YEAR (what 0), the least of them (1; NONE)." */
    private static void freesAllAndNone() {
        NotWorn x = new NotWorn();
        Due.is("all", x.frees(0), 125);
        Due.is("least of all", x.frees(1), 0);
        Due.text(x, "near 1");
        Due.is("all, nobody is there", x.frees(0), 125);
        x.person(1, 60, -99);
        Due.is("none", x.frees(0), 0);
        Due.is("least of none", x.frees(1), Due.NONE);
        x.set(0, 2, -100);
        Due.is("all again", x.frees(0), 125);
        NotWorn y = new NotWorn();
        Due.text(y, "near f");
        for (int first = 0; first < 4; first++) {
            y.person(0, 25 * first, 0);
        }
        Due.is("the last letter's", y.frees(0), 25);
        Due.is("the least of the last letter's", y.frees(1), 100);
        y.person(0, 124, 0);
        Due.is("no letter's", y.frees(1), Due.NONE);
        NotWorn z = new NotWorn();
        Due.text(z, "near d<3");
        for (int letter = 0; letter < 4; letter++) {
            z.person(0, 31 * letter, 0);
        }
        Due.is("124 alone", z.frees(0), 1);
        Due.is("124 is the least", z.frees(1), 124);
    }

    /** frees: "BAD" */
    private static void freesWhat() {
        Edges.range("frees: what", 0, 1, v -> new NotWorn().frees(v), v -> v == 0 ? 125 : 0);
    }

    /** "SOONEST of a NAME: the first of THE YEAR and the 300 years behind it in which it would be FREE" */
    private static void soonestFirstAndLast() {
        NotWorn x = Edges.inYear(50);
        Due.is("at once", x.soonest(9), 50);
        x.person(4, 9, -150);
        x.set(0, 3, 50);
        Due.is("behind 300", x.soonest(9), 350);
        x.set(0, 2, -149);
        Due.is("behind 301", x.soonest(9), Due.NONE);
        x.turns(0, 0);
        x.lifetime(1);
        Due.is("in the next", x.soonest(9), 51);
        x.lifetime(0);
        Due.is("at once again", x.soonest(9), 50);
    }

    /** "if nobody died any more"; "nothing changes" */
    private static void soonestIfNobodyDied() {
        NotWorn x = Edges.one(0, 9, -999);
        Due.text(x, "dies 100");
        Due.is("nobody dies", x.soonest(9), Due.NONE);
        Due.is("no draw", x.count(8), 1);
        Due.is("no year", x.count(3), 0);
        x.turns(0, 1);
        x.set(0, 2, 0);
        Due.is("away", x.soonest(9), 100);
        x.turns(0, 3);
        Due.is("lost", x.soonest(9), 1);
        x.turns(0, 5);
        Due.is("a guest", x.soonest(9), Due.NONE);
    }

    /** "without the bound of THE YEAR" */
    private static void soonestBeyondTheLastYear() {
        NotWorn x = Edges.inTheLastYear();
        Due.is("in 9999", x.soonest(9), 9999);
        x.person(4, 9, 9799);
        x.set(0, 3, 9999);
        Due.is("in 10299", x.soonest(9), 10299);
        x.set(0, 2, 9800);
        Due.is("in 10300", x.soonest(9), Due.NONE);
    }

    /** "CHILDREN, 6 at most, numbered from 0: two wishes, NAMES (perhaps the same)"; child: "BAD; FULL" */
    private static void sixChildren() {
        NotWorn x = new NotWorn();
        for (int i = 0; i < 6; i++) {
            Due.is("child " + i, x.child(i, i), i);
        }
        Due.is("the seventh", x.child(6, 6), Due.FULL);
        Due.is("the seventh, wrong", x.child(125, 6), Due.BAD);
        Due.is("the seventh, wrong second", x.child(6, -1), Due.BAD);
        Due.is("six", x.count(2), 6);
        names("six", x, 6, 6, 0, 1, 2, 3, 4, 5);
    }

    /** forget: "CHILDREN are no more: how many there were." */
    private static void forgetNone() {
        NotWorn x = new NotWorn();
        Due.is("none", x.forget(), 0);
        children(x, 1, 1, 2, 2, 3, 3, 4, 4, 5, 5, 6, 6);
        Due.is("six", x.forget(), 6);
        Due.is("none again", x.forget(), 0);
        names("forgotten", x, 0, 0);
        Due.is("the first again", x.child(9, 9), 0);
        names("the first again", x, 1, 1, 9);
    }

    /** dealing: "2 and c: the NAME of CHILD c (NONE). BAD." */
    private static void dealingWhat() {
        Edges.range("dealing: what, no child", 0, 1, v -> new NotWorn().dealing(v), v -> 0);
        Edges.range("dealing: what, one child", 0, 2, v -> wishing(1).dealing(v), v -> v == 0 ? 1 : 0);
        Edges.range("dealing: what, six children", 0, 7, v -> wishing(6).dealing(v), v -> v == 0 ? 6 : 5);
    }

    private static NotWorn wishing(int many) {
        NotWorn x = new NotWorn();
        for (int i = 0; i < many; i++) {
            x.child(i, i);
        }
        return x;
    }

    /** "the most that are given one": none can be */
    private static void dealingNothing() {
        NotWorn x = Edges.one(0, 7, 0);
        children(x, 7, 7, 7, 7);
        names("only held ones", x, 0, 0, Due.NONE, Due.NONE);
        Due.text(x, "near 1");
        children(x, 1, 2);
        names("all are near", x, 0, 0, Due.NONE, Due.NONE, Due.NONE);
    }

    /** "CHILDREN may be given one of their wishes that is FREE" */
    private static void dealingOnlyFreeWishes() {
        NotWorn x = Edges.one(0, 7, 0);
        children(x, 7, 8, 9, 7, 7, 7);
        names("7 is held", x, 2, 1, 8, 9, Due.NONE);
        Due.text(x, "near d<2");
        names("8 and 9 are near it", x, 0, 0, Due.NONE, Due.NONE, Due.NONE);
    }

    /** "no two NAMES that are NEAR (as near gives for the one of the lesser CHILD and the other)" */
    private static void dealingNoTwoNear() {
        NotWorn x = new NotWorn();
        children(x, 0, 0, 1, 31, 0, 62);
        names("not the same", x, 3, 2, 0, 1, 62);
        Due.text(x, "near d<2");
        names("not near", x, 3, 1, 0, 31, 62);
        Due.text(x, "near d=3");
        names("the same, but not far", x, 3, 3, 0, 1, 0);
        Due.text(x, "near 1");
        names("one alone", x, 1, 1, 0, Due.NONE, Due.NONE);
        Due.text(x, "near 0");
        names("all the same", x, 3, 3, 0, 1, 0);
    }

    /** "the most that are given one; of such ones the most that are given their first" */
    private static void dealingMostAheadOfFirsts() {
        NotWorn x = new NotWorn();
        children(x, 1, 2, 3, 1, 1, 1, 3, 3);
        names("three and two firsts", x, 3, 2, 2, 3, 1, Due.NONE);
        NotWorn y = new NotWorn();
        Due.text(y, "near f");
        children(y, 0, 25, 1, 50, 26, 75, 51, 100);
        names("all four by two firsts", y, 4, 2, 0, 50, 26, 100);
    }

    /** the same, with the order the other way round */
    private static void dealingFirstsAheadOfOrder() {
        NotWorn x = new NotWorn();
        children(x, 1, 2, 1, 1);
        names("the first yields", x, 2, 1, 2, 1);
        x.forget();
        children(x, 1, 4, 1, 2, 2, 3);
        names("two firsts, not one", x, 3, 2, 4, 1, 2);
    }

    /** "of several the one in which CHILD 0 is given the first, rather the second, rather none, then CHILD 1" */
    private static void dealingByOrder() {
        NotWorn x = new NotWorn();
        children(x, 1, 1, 1, 1, 1, 1);
        names("the first child", x, 1, 1, 1, Due.NONE, Due.NONE);
        x.forget();
        children(x, 1, 2, 1, 2, 1, 2);
        names("the first, the second, none", x, 2, 1, 1, 2, Due.NONE);
        x.forget();
        x.person(0, 3, 0);
        children(x, 3, 4, 3, 4);
        names("the second rather than none", x, 1, 0, 4, Due.NONE);
        x.forget();
        children(x, 5, 6, 7, 8, 5, 6, 7, 8, 5, 6, 7, 8);
        names("and so on", x, 4, 2, 5, 7, 6, 8, Due.NONE, Due.NONE);
    }

    /** "(perhaps the same)": such a CHILD is given its first */
    private static void dealingTheSameWishTwice() {
        NotWorn x = new NotWorn();
        children(x, 124, 124);
        names("the same twice", x, 1, 1, 124);
    }

    /** all six compete: the last ones are worked out, too */
    private static void dealingSix() {
        NotWorn x = new NotWorn();
        children(x, 0, 1, 1, 2, 2, 3, 3, 4, 4, 5, 0, 0);
        names("each takes its second", x, 6, 1, 1, 2, 3, 4, 5, 0);
        Due.is("nothing changes", x.count(2), 6);
    }

    /** "THE DEALING (in THE YEAR)" */
    private static void dealingInTheYear() {
        NotWorn x = Edges.one(1, 7, 0);
        Due.text(x, "dies 0");
        children(x, 7, 8);
        x.years(99);
        names("held in 99", x, 1, 0, 8);
        x.years(1);
        names("free in 100", x, 1, 1, 7);
    }

    /** "become PEOPLE .. by numbers, as long as there are not 10; all CHILDREN are no more then" */
    private static void christeningUpToTen() {
        for (int many : new int[] {4, 5, 9, 10}) {
            NotWorn x = Edges.people(many);
            children(x, 0, 0, 1, 1, 2, 2, 3, 3, 4, 4, 5, 5);
            Due.is("christen beside " + many, x.christen(), 10);
            Due.is("no children beside " + many, x.count(2), 0);
            Due.is("ten beside " + many, x.count(0), 10);
            for (int i = many; i < 10; i++) {
                Due.is("number " + i + " beside " + many, x.told(i, 1), i - many);
            }
        }
        NotWorn y = Edges.people(3);
        children(y, 0, 0, 1, 1, 2, 2, 3, 3, 4, 4, 5, 5);
        Due.is("christen beside 3", y.christen(), 9);
    }

    /** christen: "how many of PEOPLE there are then" */
    private static void christeningNobody() {
        NotWorn x = new NotWorn();
        Due.is("no children, nobody", x.christen(), 0);
        x.person(0, 7, 0);
        children(x, 7, 7);
        Due.is("none is given a name", x.christen(), 1);
        Due.is("all are no more", x.count(2), 0);
    }

    /** "(KIND 0, BORN in THE YEAR)" */
    private static void christenedOnes() {
        NotWorn x = Edges.inTheLastYear();
        children(x, 7, 7, 7, 7, 7, 124);
        Due.is("two of three", x.christen(), 2);
        int[][] due = {{0, 7, 9999, Due.NONE}, {0, 124, 9999, Due.NONE}};
        for (int i = 0; i < 2; i++) {
            for (int what = 0; what < 4; what++) {
                Due.is("christened " + i + ", " + what, x.told(i, what), due[i][what]);
            }
        }
    }

    /** "Sets of PEOPLE .. are told by bits"; "YIELD to one of PEOPLE: all others" */
    private static void yieldsByBits() {
        NotWorn x = Edges.people(10);
        Due.is("none", x.yields(0), 0);
        Due.text(x, "near 1");
        Due.is("all others than the first", x.yields(0), 0b1111111110);
        Due.is("all others than the last", x.yields(9), 0b0111111111);
        Due.text(x, "near d=0");
        x.set(9, 1, 100);
        Due.is("the last to the first", x.yields(0), 0b1000000000);
        Due.is("the first to the last", x.yields(9), 0b0000000001);
    }

    /** "that are alive and have NAMES that are NEAR its own" */
    private static void yieldsOnlyTheLiving() {
        NotWorn x = Edges.one(0, 7, 0);
        Due.is("one alone", x.yields(0), 0);
        x.person(0, 7, 0);
        x.set(1, 3, 0);
        Due.is("the other is dead", x.yields(0), 0);
        Due.is("to one dead", x.yields(1), 1);
        x.set(0, 3, 0);
        Due.is("both are dead", x.yields(1), 0);
        NotWorn y = Edges.one(1, 7, -100);
        y.person(0, 7, 0);
        Due.is("alive, though it doesn't hold", y.yields(1), 1);
    }
}
