/** The edges that "Terms" 2 and 3 name for years, promises 21 to 26: each method is a sentence. */
public final class EdgesYearsTest {
    public static void main(String[] args) {
        yearsFrom1To100();
        yearsUpTo9999();
        yearsCountTheDead();
        diesHeldWithin();
        diesBelow();
        halfOfItsAge();
        drawsForTheLivingByNumbers();
        diesInTheYear();
        behindHowMany();
        behindNobody();
        behindGoesBeyondTheLastYear();
        endsAtOnceOrNever();
        endsBehindOneYear();
        staysFromZeroToN();
        staysGoesBeyondTheLastYear();
        onlyThought();
        lineOfSheets();
        lineLeavesOut();
        lineFirstPlace();
        lineNearOneGiven();
        lineOfFloats();
        lineInTheYear();
        fineNames();
        Due.end();
    }

    private static int[] lived(int seed, String law, int kind, int born) {
        NotWorn x = Edges.one(kind, 0, born);
        Due.text(x, law);
        x.seed(seed);
        return new int[] {x.years(1), x.count(1)};
    }

    private static void dies(String law, int rest, int born, int due) {
        int[] answers = lived(Edges.seedFor(100, rest), law, 0, born);
        Due.is(law + ", x " + rest + ", born " + born + ": died", answers[0], due);
        Due.is(law + ", x " + rest + ", born " + born + ": alive", answers[1], 1 - due);
    }

    /** years: "n (1 .. 100) YEARS .. BAD" */
    private static void yearsFrom1To100() {
        Edges.range("years", 1, 100, v -> new NotWorn().years(v), v -> 0);
        Edges.range("years: THE YEAR", 1, 100, v -> {
            NotWorn x = new NotWorn();
            return x.years(v) == Due.BAD ? Due.BAD : x.count(3);
        }, v -> v);
    }

    /** years: "(no more than up to 9999)" */
    private static void yearsUpTo9999() {
        for (int left = 0; left <= 3; left++) {
            NotWorn x = Edges.inYear(9999 - left);
            x.person(0, 0, 9999 - left);
            Due.text(x, "dies 0");
            Due.is("years 100 with " + left + " left", x.years(100), 0);
            Due.is("9999 with " + left + " left", x.count(3), 9999);
            int z = 1;
            for (int i = 0; i < left; i++) {
                z = Edges.nextZ(z);
            }
            Due.is("draws with " + left + " left", x.count(8), z);
        }
        NotWorn y = Edges.inYear(9899);
        y.years(100);
        Due.is("9899 and 100", y.count(3), 9999);
        Due.is("BAD in 9999, 0", y.years(0), Due.BAD);
        Due.is("BAD in 9999, 101", y.years(101), Due.BAD);
    }

    /** years: "how many died in them" */
    private static void yearsCountTheDead() {
        NotWorn x = Edges.people(10);
        Due.is("nobody is old", x.years(1), 0);
        Due.text(x, "dies 100");
        Due.is("all ten", x.years(1), 10);
        Due.is("none is left", x.years(100), 0);
        NotWorn y = Edges.people(10);
        Due.text(y, "dies (a=7)*100");
        for (int i = 0; i < 10; i++) {
            y.set(i, 2, -i);
        }
        Due.is("one each year", y.years(3), 3);
        Due.is("the rest of them", y.years(100), 5);
        Due.is("those too old", y.count(1), 2);
    }

    /** "if x is below what dies gives, held within 0 .. 100" */
    private static void diesHeldWithin() {
        dies("dies 0-1", 0, 0, 0);
        dies("dies 0-9999*9999", 0, 0, 0);
        dies("dies 101", 99, 0, 1);
        dies("dies 9999*9999", 99, 0, 1);
        dies("dies 4096*4096*128", 0, 0, 0);
        dies("dies 4096*4096*128-1", 99, 0, 1);
        dies("dies 4096*4096*256", 0, 0, 0);
    }

    /** "x is its rest by 100; it is DEAD .. if x is below what dies gives" */
    private static void diesBelow() {
        dies("dies 0", 0, 0, 0);
        dies("dies 1", 0, 0, 1);
        dies("dies 1", 1, 0, 0);
        dies("dies 99", 98, 0, 1);
        dies("dies 99", 99, 0, 0);
        dies("dies 100", 99, 0, 1);
        dies("dies a", 4, -5, 1);
        dies("dies a", 5, -5, 0);
        dies("dies a", 0, 0, 0);
        dies("dies a", 99, -999, 1);
    }

    /** "(without a TEXT: half (cut) of its age, THE YEAR less BORN)" */
    private static void halfOfItsAge() {
        int[][] due = {{0, 0, 0}, {1, 0, 0}, {2, 0, 1}, {2, 1, 0}, {3, 0, 1}, {3, 1, 0}, {198, 98, 1}, {199, 98, 1},
            {199, 99, 0}, {200, 99, 1}, {999, 99, 1}};
        for (int[] one : due) {
            NotWorn x = Edges.one(0, 0, -one[0]);
            x.seed(Edges.seedFor(100, one[1]));
            Due.is("age " + one[0] + ", x " + one[1], x.years(1), one[2]);
        }
        NotWorn y = Edges.inYear(200);
        y.person(0, 0, 0);
        y.person(0, 0, 200);
        y.seed(Edges.seedFor(100, 99));
        y.years(1);
        Due.is("THE YEAR less BORN, 200", y.told(0, 3), 200);
        Due.is("THE YEAR less BORN, 0", y.told(1, 3), Due.NONE);
    }

    /** "of each of PEOPLE that is alive, by numbers: a draw" */
    private static void drawsForTheLivingByNumbers() {
        NotWorn x = Edges.people(10);
        x.set(0, 3, 0);
        x.set(9, 3, 0);
        Due.text(x, "dies 50");
        int z = 1;
        int dead = 0;
        int[] deaths = new int[10];
        for (int i = 1; i < 9; i++) {
            deaths[i] = Edges.drawn(z) % 100 < 50 ? 0 : Due.NONE;
            dead += deaths[i] == 0 ? 1 : 0;
            z = Edges.nextZ(z);
        }
        Due.is("how many", x.years(1), dead);
        for (int i = 0; i < 10; i++) {
            Due.is("death of " + i, x.told(i, 3), deaths[i]);
        }
        Due.is("eight draws", x.count(8), z);
        NotWorn y = new NotWorn();
        y.years(100);
        Due.is("nobody draws", y.count(8), 1);
    }

    /** "(DIED: THE YEAR) .. Then THE YEAR is 1 more." */
    private static void diesInTheYear() {
        NotWorn x = Edges.one(0, 0, 0);
        Due.text(x, "dies (a=2)*100");
        x.years(3);
        Due.is("died in 2", x.told(0, 3), 2);
        Due.is("it is 3", x.count(3), 3);
        NotWorn y = Edges.inYear(9998);
        y.person(0, 0, 0);
        y.years(1);
        Due.is("died in 9998", y.told(0, 3), 9998);
    }

    /** behind: "BEHIND n (0 .. 100) YEARS: what 0 .. 1 .. 2 .. BAD" */
    private static void behindHowMany() {
        Edges.range("behind: n", 0, 100, v -> lost().behind(v, 0), v -> v == 0 ? 124 : 125);
        Edges.range("behind: what", 0, 2, v -> lost().behind(2, v), v -> v == 0 ? 124 : 1);
        Due.is("behind 99, free", lost().behind(98, 2), 1);
        Due.is("behind 100, alive", lost().behind(100, 1), 1);
    }

    /** LOST with the NAME 0 that doesn't die. */
    private static NotWorn lost() {
        NotWorn x = Edges.one(3, 0, 0);
        Due.text(x, "dies 0");
        return x;
    }

    /** behind: "2 the least NAME that is FREE (NONE)" */
    private static void behindNobody() {
        NotWorn x = new NotWorn();
        Due.is("nobody: free", x.behind(100, 0), 125);
        Due.is("nobody: alive", x.behind(100, 1), 0);
        Due.is("nobody: least", x.behind(100, 2), 0);
        NotWorn y = lost();
        Due.text(y, "near 1");
        Due.is("none is free", y.behind(0, 2), Due.NONE);
        Due.is("all are free", y.behind(1, 2), 0);
        Due.is("none is free again", y.behind(2, 2), Due.NONE);
        Due.is("none: how many", y.behind(2, 0), 0);
    }

    /** "without the bound of THE YEAR" */
    private static void behindGoesBeyondTheLastYear() {
        NotWorn x = Edges.inTheLastYear();
        x.person(0, 5, 9999);
        Due.text(x, "dies (a=99)*100");
        Due.is("alive in 10098", x.behind(99, 1), 1);
        Due.is("dead in 10099", x.behind(100, 1), 0);
        Due.is("it is 9999", x.count(3), 9999);
    }

    /** "ENDS: behind how many YEARS (0 .. 200) no NAME is FREE first"; ends: "NONE: not by then" */
    private static void endsAtOnceOrNever() {
        Due.is("nobody", new NotWorn().ends(), Due.NONE);
        NotWorn x = Edges.people(10);
        Due.is("ten of 125", x.ends(), Due.NONE);
        Due.text(x, "near 1");
        Due.is("at once", x.ends(), 0);
        NotWorn y = Edges.inTheLastYear();
        y.person(0, 0, 9999);
        Due.text(y, "near 1");
        Due.is("at once in 9999", y.ends(), 0);
        y.set(0, 3, 9999);
        y.lifetime(0);
        Due.is("never in 9999", y.ends(), Due.NONE);
    }

    /** the same: "behind how many", and "without the bound of THE YEAR" */
    private static void endsBehindOneYear() {
        NotWorn x = Edges.inTheLastYear();
        x.person(3, 0, 9999);
        Due.text(x, "near 1");
        Due.is("in 10000", x.ends(), 1);
        x.set(0, 2, 9901);
        Due.text(x, "dies 0");
        Due.is("at 99, the last year it holds", x.ends(), 1);
        x.set(0, 2, 9900);
        Due.is("at 100 no more", x.ends(), Due.NONE);
        x.set(0, 2, 9999);
        Due.text(x, "dies 100");
        Due.is("dead in 9999, held in 10000", x.ends(), 1);
        x.lifetime(1);
        Due.is("dead in 9999, free in 10000", x.ends(), Due.NONE);
    }

    /** "STAYS of a NAME in n: behind how many of 0 .. n YEARS it is FREE"; "n (0 .. 100)"; "BAD" */
    private static void staysFromZeroToN() {
        Edges.range("stays: n", 0, 100, v -> new NotWorn().stays(0, v), v -> v + 1);
        Edges.range("stays: n, held", 0, 100, v -> lost().stays(0, v), v -> v == 0 ? 0 : 51);
        Due.is("stays 1", lost().stays(0, 1), 1);
        Due.is("stays 2", lost().stays(0, 2), 1);
        Due.is("stays 98", lost().stays(0, 98), 49);
        Due.is("stays 99", lost().stays(0, 99), 50);
        NotWorn x = Edges.one(0, 9, 0);
        Due.is("never", x.stays(9, 30), 0);
    }

    /** "without the bound of THE YEAR" */
    private static void staysGoesBeyondTheLastYear() {
        NotWorn x = Edges.inTheLastYear();
        x.person(0, 5, 9999);
        x.set(0, 3, 9999);
        Due.is("until 10078", x.stays(5, 79), 0);
        Due.is("from 10079 on", x.stays(5, 80), 1);
        Due.is("until 10099", x.stays(5, 100), 21);
    }

    /** "(All this is only thought, from now on, z as it is ..: nothing changes.)" */
    private static void onlyThought() {
        NotWorn x = new NotWorn();
        NotWorn y = new NotWorn();
        for (NotWorn one : new NotWorn[] {x, y}) {
            one.seed(-77);
            one.deal(10);
        }
        Edges.fill(x, 0, 0, 1, 2, 3);
        for (int what = 0; what < 3; what++) {
            x.behind(100, what);
        }
        x.ends();
        x.stays(3, 100);
        x.soonest(3);
        x.line(0);
        for (int what : new int[] {0, 1, 2, 3, 4, 5, 8}) {
            Due.is("count " + what, x.count(what), y.count(what));
        }
        for (int i = 0; i < 40; i++) {
            Due.is("told " + i, x.told(i / 4, i % 4), y.told(i / 4, i % 4));
        }
        for (int n = 0; n < 40; n++) {
            Due.is("behind " + n, x.behind(n, 1), y.count(1));
            Due.is("behind " + n + ", free", x.behind(n, 0), y.frees(0));
            y.years(1);
        }
    }

    /** line: "BAD; NOTHING; NONE: there is none." */
    private static void lineOfSheets() {
        Edges.range("line: sheet", 0, 3, v -> new NotWorn().line(v), v -> Due.NOTHING);
        NotWorn x = new NotWorn();
        for (int sort = 0; sort < 2; sort++) {
            x.sheet(sort, sort, 0);
            Due.is("no places", x.line(sort), Due.NONE);
            x.sheet(sort, sort, 1);
            Due.is("one place", x.line(sort), Due.NONE);
            x.sheet(sort, sort, 2);
            Due.is("0 and 0", x.line(sort), 1);
            x.sheet(sort, -1, 0);
            Due.is("missing", x.line(sort), Due.NOTHING);
        }
    }

    /** "its places tell NAMES (numbers 0 .. 124; all others are left out)" */
    private static void lineLeavesOut() {
        NotWorn x = new NotWorn();
        Edges.fill(x, 0, 0, -1, -1, 125, 125, -32768, -32768, 32767, 32767);
        Due.is("all are left out", x.line(0), Due.NONE);
        Edges.fill(x, 0, 0, 0, 124, 125, -1, 124, 0);
        Due.is("124 is told", x.line(0), 4);
        Edges.fill(x, 0, 0, 0, 124, 125, -1, 123, 0);
        Due.is("0 is told", x.line(0), 5);
        Due.text(x, "near 1");
        Edges.fill(x, 0, 0, 125, -1, 7, 500, 8);
        Due.is("those left out hold nothing", x.line(0), 4);
    }

    /** "the first place whose NAME is not FREE" */
    private static void lineFirstPlace() {
        NotWorn x = Edges.one(0, 50, 0);
        int[] row = new int[24];
        for (int i = 0; i < 24; i++) {
            row[i] = i;
        }
        Edges.fill(x, 0, 0, row);
        Due.is("24 places", x.line(0), Due.NONE);
        x.mark(0, 23, 50);
        Due.is("the last", x.line(0), 23);
        x.mark(0, 23, 22);
        Due.is("the last, given ahead", x.line(0), 23);
        x.mark(0, 0, 50);
        Due.is("the first", x.line(0), 0);
        x.mark(0, 0, 23);
        x.mark(0, 23, 23);
        Due.is("the last as the first", x.line(0), 23);
    }

    /** "or NEAR (as near gives for it and theirs) one that was given ahead" */
    private static void lineNearOneGiven() {
        NotWorn x = new NotWorn();
        Edges.fill(x, 0, 0, 0, 31, 62, 93, 124, 1);
        Due.is("none is the same", x.line(0), Due.NONE);
        Due.text(x, "near d<2");
        Due.is("1 is near 0", x.line(0), 5);
        Due.text(x, "near d=3");
        Due.is("31 is far", x.line(0), 1);
        Due.text(x, "near 0");
        Edges.fill(x, 0, 0, 5, 5, 5);
        Due.is("none is near itself", x.line(0), Due.NONE);
    }

    /** "A place of floats may be NO NUMBER" */
    private static void lineOfFloats() {
        NotWorn x = Edges.one(0, 50, 0);
        Edges.fill(x, 0, 1, Due.NONE, -99999, 99999, Due.NONE, 124, -1, 125, 50);
        Due.is("floats", x.line(0), 7);
    }

    /** "that are given in THE YEAR" */
    private static void lineInTheYear() {
        NotWorn x = Edges.one(1, 7, 0);
        Due.text(x, "dies 0");
        Edges.fill(x, 0, 0, 7);
        x.years(99);
        Due.is("held in 99", x.line(0), 0);
        x.years(1);
        Due.is("free in 100", x.line(0), Due.NONE);
    }

    /** "of fine y THE YEAR, p how many of PEOPLE are alive (.. without a TEXT: 0)" */
    private static void fineNames() {
        NotWorn x = Edges.people(10);
        Due.is("without a TEXT", x.fine(), 0);
        Due.text(x, "near 1");
        Due.text(x, "dies 0");
        Due.is("without a TEXT of fine", x.fine(), 0);
        Due.text(x, "fine y*100+p");
        Due.is("y 0, p 10", x.fine(), 10);
        x.set(9, 3, 0);
        Due.is("y 0, p 9", x.fine(), 9);
        NotWorn y = Edges.inTheLastYear();
        Due.text(y, "fine y*100+p");
        Due.is("y 9999, p 0", y.fine(), 999900);
    }
}
