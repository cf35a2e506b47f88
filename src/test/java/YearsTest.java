/** Promises 21 to 26: years, what is only thought, the line of a sheet, fine. */
public final class YearsTest {
    public static void main(String[] args) {
        years();
        for (int seed = 0; seed < 40; seed++) {
            yearsDrawOnlyForTheLiving(seed);
        }
        yearsByLaw();
        yearsUpToTheLast();
        behind();
        thoughtGoesBeyondTheLast();
        ends();
        stays();
        line();
        lineByLaw();
        fine();
        Due.end();
    }

    private static void years() {
        NotWorn x = new NotWorn();
        Due.is("years 0", x.years(0), Due.BAD);
        Due.is("years 101", x.years(101), Due.BAD);
        Due.is("years 100", x.years(100), 0);
        Due.is("years passed", x.count(3), 100);
        Due.is("years without draws", x.count(8), 1);
        x.person(0, 1, -100);
        Due.is("years: at 200 all die", x.years(1), 1);
        Due.is("years: when", x.told(0, 3), 100);
        x.person(0, 1, 101);
        x.person(0, 1, 100);
        Due.is("years: none below 2", x.years(1), 0);
    }

    private static void yearsDrawOnlyForTheLiving(int seed) {
        NotWorn x = new NotWorn();
        x.seed(seed);
        int[] births = {0, -60, -90, -198};
        int[] deaths = new int[4];
        for (int i = 0; i < 4; i++) {
            x.person(i, i, births[i]);
            deaths[i] = Due.NONE;
        }
        x.set(1, 3, 0);
        deaths[1] = 0;
        int z = seed;
        int dead = 0;
        for (int year = 0; year < 60; year++) {
            for (int i = 0; i < 4; i++) {
                if (deaths[i] != Due.NONE) {
                    continue;
                }
                z = z * 1103515245 + 12345;
                if ((z >>> 8) % 100 < (year - births[i]) / 2) {
                    deaths[i] = year;
                    dead++;
                }
            }
        }
        Due.is("years: deaths", x.years(60), dead);
        for (int i = 0; i < 4; i++) {
            Due.is("years: death of " + i, x.told(i, 3), deaths[i]);
        }
        Due.is("years: z", x.count(8), z);
    }

    private static void yearsByLaw() {
        NotWorn x = new NotWorn();
        for (int kind = 0; kind < 6; kind++) {
            x.person(kind, kind, -kind);
        }
        Due.text(x, "dies (k=4)*1000-(k=2)*9999");
        Due.is("dies: the king", x.years(1), 1);
        Due.is("dies: it was", x.told(4, 3), 0);
        Due.text(x, "dies (a=3)*100");
        Due.is("dies: of age 3", x.years(1), 1);
        Due.is("dies: that was the saint", x.told(2, 3), 1);
        Due.text(x, "dies 0");
        Due.is("dies: nobody", x.years(100), 0);
        Due.text(x, "dies 100");
        Due.is("dies: everybody", x.years(1), 4);
    }

    private static void yearsUpToTheLast() {
        NotWorn x = new NotWorn();
        for (int i = 0; i < 99; i++) {
            x.years(100);
        }
        Due.is("years 9900", x.count(3), 9900);
        x.years(50);
        x.years(100);
        Due.is("years 9999", x.count(3), 9999);
        x.person(0, 3, 9799);
        int z = x.count(8);
        Due.is("years no more", x.years(1), 0);
        Due.is("years no more draws", x.count(8), z);
        Due.is("years still 9999", x.count(3), 9999);
        Due.is("years: alive", x.count(1), 1);
    }

    private static void behind() {
        NotWorn x = new NotWorn();
        x.seed(77);
        x.deal(9);
        NotWorn y = new NotWorn();
        y.seed(77);
        y.deal(9);
        for (int n = 0; n <= 100; n++) {
            Due.is("behind: frees", x.behind(n, 0), y.frees(0));
            Due.is("behind: alive", x.behind(n, 1), y.count(1));
            Due.is("behind: least", x.behind(n, 2), y.frees(1));
            y.years(1);
        }
        Due.is("behind changes no year", x.count(3), 0);
        Due.is("behind kills nobody", x.count(1), 9);
        Due.text(x, "near 1");
        Due.is("behind: none is free", x.behind(0, 2), Due.NONE);
        Due.is("behind -1", x.behind(-1, 0), Due.BAD);
        Due.is("behind 101", x.behind(101, 0), Due.BAD);
        Due.is("behind what -1", x.behind(0, -1), Due.BAD);
        Due.is("behind what 3", x.behind(0, 3), Due.BAD);
    }

    private static void thoughtGoesBeyondTheLast() {
        NotWorn x = new NotWorn();
        for (int i = 0; i < 100; i++) {
            x.years(100);
        }
        x.person(0, 3, 9999);
        Due.is("beyond: all die", x.behind(100, 1), 0);
        Due.is("beyond: held", x.stays(3, 10), 0);
        x.set(0, 3, 9999);
        Due.is("beyond: free behind 80", x.stays(3, 100), 21);
        Due.is("beyond: soonest", x.soonest(3), 10079);
        x.person(0, 4, 9999);
        Due.text(x, "near d<4");
        Due.text(x, "dies 0");
        Due.is("beyond: ends", x.ends(), 0);
    }

    private static void ends() {
        NotWorn x = new NotWorn();
        Due.is("ends nobody", x.ends(), Due.NONE);
        x.person(3, 0, 0);
        x.years(1);
        Due.text(x, "near 1");
        Due.text(x, "dies 0");
        Due.is("ends in an even year", x.ends(), 1);
        x.years(1);
        Due.is("ends at once", x.ends(), 0);
        x.turns(0, 0);
        x.set(0, 3, 0);
        x.lifetime(0);
        Due.is("ends never", x.ends(), Due.NONE);
        Due.is("ends changes nothing", x.count(3), 2);
    }

    private static void stays() {
        NotWorn x = new NotWorn();
        x.person(3, 6, 0);
        Due.text(x, "dies 0");
        Due.is("stays behind 0", x.stays(6, 0), 0);
        Due.is("stays odd years", x.stays(6, 10), 5);
        Due.is("stays odd years and behind 100", x.stays(6, 100), 51);
        Due.is("stays another", x.stays(7, 100), 101);
        Due.is("stays -1", x.stays(6, -1), Due.BAD);
        Due.is("stays 101", x.stays(6, 101), Due.BAD);
        Due.is("stays name 125", x.stays(125, 0), Due.BAD);
        Due.is("stays name -1", x.stays(-1, 0), Due.BAD);
        Due.is("stays changes nothing", x.count(3), 0);
    }

    private static void line() {
        NotWorn x = new NotWorn();
        x.person(0, 5, 0);
        x.sheet(0, 0, 24);
        Due.is("line: 0 twice", x.line(0), 1);
        for (int i = 0; i < 24; i++) {
            x.mark(0, i, 20 + i);
        }
        Due.is("line: none", x.line(0), Due.NONE);
        x.mark(0, 3, 125);
        x.mark(0, 4, -1);
        x.mark(0, 5, 125);
        Due.is("line: left out", x.line(0), Due.NONE);
        x.mark(0, 23, 5);
        Due.is("line: not free", x.line(0), 23);
        x.mark(0, 22, 20);
        Due.is("line: given ahead", x.line(0), 22);
        x.sheet(1, 1, 3);
        x.mark(1, 0, Due.NONE);
        x.mark(1, 1, Due.NONE);
        x.mark(1, 2, 5);
        Due.is("line: floats", x.line(1), 2);
        x.sheet(2, 1, 0);
        Due.is("line: no places", x.line(2), Due.NONE);
        Due.is("line: missing", x.line(3), Due.NOTHING);
        Due.is("line 4", x.line(4), Due.BAD);
        Due.is("line -1", x.line(-1), Due.BAD);
        Due.is("line gives nothing", x.count(0), 1);
    }

    private static void lineByLaw() {
        NotWorn x = new NotWorn();
        Due.text(x, "near f");
        x.sheet(0, 0, 3);
        x.mark(0, 0, 0);
        x.mark(0, 1, 30);
        x.mark(0, 2, 24);
        Due.is("line by law: near one ahead", x.line(0), 2);
        x.person(0, 49, 0);
        Due.is("line by law: near one held", x.line(0), 1);
    }

    private static void fine() {
        NotWorn x = new NotWorn();
        Due.is("fine without a text", x.fine(), 0);
        Due.text(x, "fine y*1000+p");
        x.years(3);
        x.person(0, 1, 3);
        x.person(0, 2, 3);
        x.set(0, 3, 3);
        Due.is("fine", x.fine(), 3001);
        Due.text(x, "fine 9999*9999*9999");
        Due.is("fine wraps", x.fine(), 9999 * 9999 * 9999);
    }
}
