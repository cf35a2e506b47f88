import java.util.function.IntUnaryOperator;

/** The last value that is taken and the first that is refused, on both sides; and ways to reach an edge. */
final class Edges {
    private Edges() {
    }

    /** Each call is made on a new object, so that one doesn't stand in the way of the next. */
    static void range(String what, int least, int most, IntUnaryOperator call, IntUnaryOperator due) {
        range(what, least, most, call, due, Due.BAD);
    }

    static void range(String what, int least, int most, IntUnaryOperator call, IntUnaryOperator due, int refusal) {
        Due.is(what + " " + least + ", the least", call.applyAsInt(least), due.applyAsInt(least));
        Due.is(what + " " + most + ", the most", call.applyAsInt(most), due.applyAsInt(most));
        for (int v : new int[] {least - 1, most + 1, Integer.MIN_VALUE, Integer.MAX_VALUE}) {
            Due.is(what + " " + v + ", beyond", call.applyAsInt(v), refusal);
        }
    }

    static int nextZ(int z) {
        return z * 1103515245 + 12345;
    }

    static int drawn(int z) {
        return nextZ(z) >>> 8;
    }

    /** A z whose next draw has the rest, with a z below 0 behind it: so >> instead of >>> would be seen. */
    static int seedFor(int by, int rest) {
        for (int z = 0; z < 1000000; z++) {
            if (nextZ(z) < 0 && drawn(z) % by == rest) {
                return z;
            }
        }
        Due.holds("a seed for the rest " + rest + " by " + by, false);
        return 0;
    }

    /** THE YEAR becomes 9999, by 100 calls. */
    static NotWorn inTheLastYear() {
        NotWorn x = new NotWorn();
        for (int i = 0; i < 99; i++) {
            x.years(100);
        }
        x.years(99);
        return x;
    }

    static NotWorn inYear(int year) {
        NotWorn x = new NotWorn();
        for (int left = year; left > 0; left -= 100) {
            x.years(Math.min(left, 100));
        }
        return x;
    }

    /** One of PEOPLE alone, in THE YEAR 0. */
    static NotWorn one(int kind, int name, int born) {
        NotWorn x = new NotWorn();
        x.person(kind, name, born);
        return x;
    }

    /** So many of PEOPLE, all alive, with the NAMES 100, 101 and on. */
    static NotWorn people(int many) {
        NotWorn x = new NotWorn();
        for (int i = 0; i < many; i++) {
            x.person(0, 100 + i, 0);
        }
        return x;
    }

    /** A row of numbers becomes a SHEET. */
    static void fill(NotWorn x, int sheet, int sort, int... numbers) {
        x.sheet(sheet, sort, numbers.length);
        for (int i = 0; i < numbers.length; i++) {
            x.mark(sheet, i, numbers[i]);
        }
    }

    /** The places of a SHEET, through the last SLOT. */
    static void shows(String what, NotWorn x, int sheet, int... numbers) {
        x.lay(4, 2, sheet);
        for (int i = 0; i < numbers.length; i++) {
            Due.is(what + ", place " + i, x.item(4, i), numbers[i]);
        }
        Due.is(what + ", the end", x.item(4, numbers.length), Due.INDEX);
    }
}
