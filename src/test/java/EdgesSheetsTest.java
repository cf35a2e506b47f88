/** The edges that "Terms" 5 names for sheets and slots, promises 32 to 40: each method is a sentence. */
public final class EdgesSheetsTest {
    public static void main(String[] args) {
        sheetsFrom0To3();
        slotsFrom0To4();
        placesFrom0To24();
        sheetSorts();
        sheetMissing();
        sheetAllZero();
        sheetBadAheadOfSize();
        markPlaces();
        markShorts();
        markFloats();
        markOrder();
        pourHeldWithin();
        pourStays();
        pourCounts();
        readsFirstPlace();
        readsBeyondPeople();
        readsNumbersAlone();
        copyEdges();
        copyWithin();
        copyNothing();
        copyWrapsNowhere();
        copyOrder();
        copyNoNumbers();
        layThings();
        layOneForGood();
        laySheetAsItWas();
        layNumbers();
        askKinds();
        askOrder();
        itemPlaces();
        itemOrder();
        restSigns();
        restOrder();
        Due.end();
    }

    /** "SHEETS 0 .. 3" */
    private static void sheetsFrom0To3() {
        Edges.range("sheet", 0, 3, v -> new NotWorn().sheet(v, 0, 5), v -> 5);
        Edges.range("sheet, missing", 0, 3, v -> new NotWorn().sheet(v, -1, 5), v -> 0);
        Edges.range("mark", 0, 3, v -> sheets().mark(v, 0, 1), v -> 1);
        Edges.range("pour", 0, 3, v -> sheets().pour(v), v -> 0);
        Edges.range("reads", 0, 3, v -> sheets().reads(v), v -> 0);
        Edges.range("line", 0, 3, v -> sheets().line(v), v -> Due.NONE);
        Edges.range("copy from", 0, 3, v -> sheets().copy(v, 0, 1, 0, 1), v -> 1);
        Edges.range("copy to", 0, 3, v -> sheets().copy(1, 0, v, 0, 1), v -> 1);
        Edges.range("lay a sheet", 0, 3, v -> sheets().lay(0, 2, v), v -> 0);
        NotWorn x = sheets();
        for (int sheet = 0; sheet < 4; sheet++) {
            x.mark(sheet, 0, 10 + sheet);
        }
        for (int sheet = 0; sheet < 4; sheet++) {
            Edges.shows("each its own", x, sheet, 10 + sheet);
        }
    }

    private static NotWorn sheets() {
        NotWorn x = new NotWorn();
        for (int sheet = 0; sheet < 4; sheet++) {
            x.sheet(sheet, 0, 1);
        }
        return x;
    }

    /** "SLOTS 0 .. 4 each hold nothing (at first)" */
    private static void slotsFrom0To4() {
        Edges.range("lay", 0, 4, v -> new NotWorn().lay(v, 3, 5), v -> 0);
        Edges.range("ask", 0, 4, v -> new NotWorn().ask(v, 0), v -> Due.NOTHING);
        Edges.range("item", 0, 4, v -> new NotWorn().item(v, 0), v -> Due.NOTHING);
        Edges.range("rest", 0, 4, v -> new NotWorn().rest(v, 1), v -> Due.NOTHING);
        NotWorn x = new NotWorn();
        for (int slot = 0; slot < 5; slot++) {
            x.lay(slot, 3, 10 + slot);
        }
        for (int slot = 0; slot < 5; slot++) {
            Due.is("each its own", x.rest(slot, 100), 10 + slot);
        }
    }

    /** "with 0 to 24 places"; sheet: "BAD: .. n above 24; SIZE"; "SIZE: a number of places is below 0" */
    private static void placesFrom0To24() {
        for (int sort = 0; sort < 2; sort++) {
            NotWorn x = new NotWorn();
            Due.is("24 places", x.sheet(0, sort, 24), 24);
            Due.is("the last of 24", x.mark(0, 23, 1), 1);
            Due.is("behind the last of 24", x.mark(0, 24, 1), Due.INDEX);
            Due.is("25 places", x.sheet(0, sort, 25), Due.BAD);
            Due.is("the most places", x.sheet(0, sort, Integer.MAX_VALUE), Due.BAD);
            Due.is("-1 places", x.sheet(0, sort, -1), Due.SIZE);
            Due.is("the least places", x.sheet(0, sort, Integer.MIN_VALUE), Due.SIZE);
            Due.is("24 places as they were", x.mark(0, 23, 1), 1);
            Due.is("0 places", x.sheet(0, sort, 0), 0);
            Due.is("behind none", x.mark(0, 0, 1), Due.INDEX);
        }
    }

    /** "rows of shorts (sort 0) or floats (1"; sheet: "(sort -1: MISSING, n any)" */
    private static void sheetSorts() {
        Edges.range("sort", -1, 1, v -> new NotWorn().sheet(0, v, 3), v -> v == -1 ? 0 : 3);
    }

    /** "or MISSING (at first)"; sheet: "n (0)" */
    private static void sheetMissing() {
        NotWorn x = new NotWorn();
        for (int n : new int[] {0, -1, 25, Integer.MIN_VALUE, Integer.MAX_VALUE}) {
            x.sheet(2, 0, 3);
            Due.is("missing, n " + n, x.sheet(2, -1, n), 0);
            Due.is("mark", x.mark(2, 0, 0), Due.NOTHING);
            Due.is("pour", x.pour(2), Due.NOTHING);
            Due.is("reads", x.reads(2), Due.NOTHING);
            Due.is("line", x.line(2), Due.NOTHING);
            Due.is("lay", x.lay(0, 2, 2), Due.NOTHING);
            Due.is("copy", x.copy(2, 0, 2, 0, 0), Due.NOTHING);
        }
        Due.is("still missing", x.sheet(2, -1, 0), 0);
    }

    /** sheet: "A SHEET becomes a row of n places of a sort, all 0" */
    private static void sheetAllZero() {
        NotWorn x = new NotWorn();
        Edges.fill(x, 0, 0, 7, 8, 9);
        x.sheet(0, 0, 3);
        Edges.shows("shorts anew", x, 0, 0, 0, 0);
        Edges.fill(x, 0, 1, 7, Due.NONE, 9);
        x.sheet(0, 1, 4);
        Edges.shows("floats anew", x, 0, 0, 0, 0, 0);
        Edges.fill(x, 0, 1, 7, Due.NONE, 9);
        x.sheet(0, -1, 0);
        x.sheet(0, 0, 2);
        Edges.shows("shorts behind floats", x, 0, 0, 0);
        Due.is("they are shorts", x.mark(0, 0, Due.NONE), Due.KIND);
        x.sheet(0, 1, 2);
        Due.is("they are floats", x.mark(0, 0, Due.NONE), 1);
    }

    /** "of several the one that stands first with it" */
    private static void sheetBadAheadOfSize() {
        NotWorn x = new NotWorn();
        Due.is("sheet and size", x.sheet(4, 0, -1), Due.BAD);
        Due.is("sort and size", x.sheet(0, 2, -1), Due.BAD);
        Due.is("sort and size below", x.sheet(0, -2, -1), Due.BAD);
        Due.is("sheet, though missing", x.sheet(-1, -1, -1), Due.BAD);
    }

    /** mark: "INDEX"; "INDEX: there is no such place" */
    private static void markPlaces() {
        for (int sort = 0; sort < 2; sort++) {
            int own = sort;
            Edges.range("mark: place, sort " + sort, 0, 4, v -> {
                NotWorn x = new NotWorn();
                x.sheet(0, own, 5);
                return x.mark(0, v, 7);
            }, v -> 1, Due.INDEX);
            NotWorn x = new NotWorn();
            x.sheet(0, sort, 5);
            x.mark(0, 0, 7);
            x.mark(0, 4, 8);
            x.mark(0, 5, 9);
            Edges.shows("first and last", x, 0, 7, 0, 0, 0, 8);
        }
    }

    /** mark: "(of shorts its lowest 16 bits"; "KIND: NONE in a row of shorts" */
    private static void markShorts() {
        int[][] due = {{32767, 32767}, {32768, -32768}, {65535, -1}, {65536, 0}, {65537, 1}, {-1, -1}, {-32768, -32768},
            {-32769, 32767}, {-65536, 0}, {100000, -31072}, {Integer.MAX_VALUE, -1}, {Integer.MIN_VALUE, 0},
            {Due.NONE - 1, (short) (Due.NONE - 1)}, {Due.NONE + 1, (short) (Due.NONE + 1)},
            {Due.BAD, (short) Due.BAD}};
        NotWorn x = new NotWorn();
        for (int[] one : due) {
            x.sheet(0, 0, 1);
            Due.is("mark " + one[0], x.mark(0, 0, one[0]), 1);
            Edges.shows("mark " + one[0], x, 0, one[1]);
        }
        x.mark(0, 0, 5);
        Due.is("NONE", x.mark(0, 0, Due.NONE), Due.KIND);
        Edges.shows("as it was", x, 0, 5);
    }

    /** mark: "of floats v, -99999 .. 99999; NONE: NO NUMBER)"; "BAD: v of floats" */
    private static void markFloats() {
        Edges.range("mark: floats", -99999, 99999, v -> {
            NotWorn x = new NotWorn();
            x.sheet(0, 1, 1);
            int answer = x.mark(0, 0, v);
            Edges.shows("floats, " + v, x, 0, answer == 1 ? v : 0);
            return answer;
        }, v -> 1);
        NotWorn x = new NotWorn();
        x.sheet(0, 1, 1);
        Due.is("NO NUMBER", x.mark(0, 0, Due.NONE), 1);
        Edges.shows("NO NUMBER", x, 0, Due.KIND);
        Due.is("NONE less 1", x.mark(0, 0, Due.NONE - 1), Due.BAD);
        Due.is("NONE and 1", x.mark(0, 0, Due.NONE + 1), Due.BAD);
        Edges.shows("NO NUMBER as it was", x, 0, Due.KIND);
        Due.is("a number again", x.mark(0, 0, 0), 1);
        Edges.shows("a number again", x, 0, 0);
    }

    /** mark: "BAD: sheet; NOTHING; INDEX; KIND ..; BAD: v of floats" */
    private static void markOrder() {
        NotWorn x = new NotWorn();
        x.sheet(0, 0, 1);
        x.sheet(1, 1, 1);
        Due.is("sheet ahead of all", x.mark(4, 9, Due.NONE), Due.BAD);
        Due.is("NOTHING ahead of INDEX", x.mark(2, 9, Due.NONE), Due.NOTHING);
        Due.is("INDEX ahead of KIND", x.mark(0, 1, Due.NONE), Due.INDEX);
        Due.is("INDEX ahead of BAD", x.mark(1, 1, 100000), Due.INDEX);
        Due.is("INDEX ahead of BAD, below", x.mark(1, -1, -100000), Due.INDEX);
    }

    /** pour: "each held within 0 .. 124" */
    private static void pourHeldWithin() {
        int[][] due = {{-32768, 0}, {-1, 0}, {0, 0}, {1, 1}, {123, 123}, {124, 124}, {125, 124}, {32767, 124}};
        for (int[] one : due) {
            for (int sort = 0; sort < 2; sort++) {
                NotWorn x = Edges.one(0, 50, 0);
                Edges.fill(x, 0, sort, one[0]);
                Due.is("pour " + one[0], x.pour(0), 1);
                Due.is("poured " + one[0], x.told(0, 1), one[1]);
            }
        }
        NotWorn y = Edges.one(0, 50, 0);
        Edges.fill(y, 0, 1, 99999);
        y.pour(0);
        Due.is("poured 99999", y.told(0, 1), 124);
        Edges.fill(y, 0, 1, -99999);
        y.pour(0);
        Due.is("poured -99999", y.told(0, 1), 0);
    }

    /** pour: "NO NUMBER, and beyond the SHEET: they stay" */
    private static void pourStays() {
        NotWorn x = Edges.people(3);
        Edges.fill(x, 0, 1, Due.NONE, 7);
        Due.is("pour", x.pour(0), 1);
        Due.is("NO NUMBER", x.told(0, 1), 100);
        Due.is("a number", x.told(1, 1), 7);
        Due.is("beyond the SHEET", x.told(2, 1), 102);
        x.sheet(1, 0, 0);
        Due.is("no places", x.pour(1), 0);
        Due.is("as they were", x.told(0, 1), 100);
        NotWorn y = new NotWorn();
        Edges.fill(y, 0, 0, 1, 2, 3);
        Due.is("nobody", y.pour(0), 0);
        Due.is("nobody came", y.count(0), 0);
    }

    /** pour: "how many are otherwise then" */
    private static void pourCounts() {
        NotWorn x = Edges.people(10);
        int[] row = new int[24];
        Edges.fill(x, 0, 0, row);
        Due.is("all ten", x.pour(0), 10);
        Due.is("none again", x.pour(0), 0);
        x.mark(0, 9, 5);
        x.mark(0, 10, 5);
        x.mark(0, 8, -7);
        Due.is("the last alone", x.pour(0), 1);
        Due.is("its name", x.told(9, 1), 5);
        x.set(0, 1, 124);
        x.mark(0, 0, 500);
        Due.is("held, so as it was", x.pour(0), 0);
    }

    /** reads: "The first place (of numbers alone) at which a SHEET is not NAME of that one"; "NONE: there is none" */
    private static void readsFirstPlace() {
        NotWorn x = Edges.people(10);
        int[] row = {100, 101, 102, 103, 104, 105, 106, 107, 108, 109};
        Edges.fill(x, 0, 0, row);
        Due.is("all are", x.reads(0), Due.NONE);
        x.mark(0, 9, 108);
        Due.is("the last", x.reads(0), 9);
        x.mark(0, 0, 101);
        Due.is("the first", x.reads(0), 0);
        Edges.fill(x, 1, 1, 100, 101);
        Due.is("fewer places than people", x.reads(1), Due.NONE);
    }

    /** reads: "(of places that are none of PEOPLE all numbers are not)" */
    private static void readsBeyondPeople() {
        NotWorn x = Edges.people(2);
        Edges.fill(x, 0, 1, 100, 101, Due.NONE, 0);
        Due.is("0 is none's", x.reads(0), 3);
        x.mark(0, 3, Due.NONE);
        Due.is("no numbers beyond", x.reads(0), Due.NONE);
        NotWorn y = new NotWorn();
        y.sheet(0, 0, 24);
        Due.is("nobody", y.reads(0), 0);
        y.sheet(0, 0, 0);
        Due.is("no places", y.reads(0), Due.NONE);
    }

    /** the same: "(of numbers alone)" */
    private static void readsNumbersAlone() {
        NotWorn x = Edges.people(3);
        Edges.fill(x, 0, 1, Due.NONE, 7, Due.NONE);
        Due.is("the first number", x.reads(0), 1);
        x.mark(0, 1, Due.NONE);
        Due.is("no number", x.reads(0), Due.NONE);
    }

    private static NotWorn twoRows() {
        NotWorn x = new NotWorn();
        Edges.fill(x, 0, 0, 1, 2, 3, 4);
        Edges.fill(x, 1, 0, 5, 6, 7);
        return x;
    }

    /** copy: "So many places of a SHEET come to another one (or the same) .. many"; "INDEX" */
    private static void copyEdges() {
        Edges.range("copy: place", 0, 2, v -> twoRows().copy(0, v, 1, 0, 2), v -> 2, Due.INDEX);
        Edges.range("copy: at", 0, 1, v -> twoRows().copy(0, 0, 1, v, 2), v -> 2, Due.INDEX);
        Edges.range("copy: many there", 0, 3, v -> twoRows().copy(0, 0, 1, 0, v), v -> v, Due.INDEX);
        Edges.range("copy: many from", 0, 3, v -> twoRows().copy(1, 0, 0, 1, v), v -> v, Due.INDEX);
        NotWorn x = twoRows();
        x.copy(0, 2, 1, 1, 2);
        Edges.shows("copied", x, 1, 5, 3, 4);
        Edges.shows("as they were", x, 0, 1, 2, 3, 4);
        x.copy(1, 0, 0, 0, 3);
        Edges.shows("copied back", x, 0, 5, 3, 4, 4);
    }

    /** copy: "(or the same), as they were" */
    private static void copyWithin() {
        NotWorn x = twoRows();
        Due.is("forwards", x.copy(0, 0, 0, 1, 3), 3);
        Edges.shows("forwards", x, 0, 1, 1, 2, 3);
        NotWorn y = twoRows();
        Due.is("backwards", y.copy(0, 1, 0, 0, 3), 3);
        Edges.shows("backwards", y, 0, 2, 3, 4, 4);
        NotWorn z = twoRows();
        Due.is("onto itself", z.copy(0, 0, 0, 0, 4), 4);
        Edges.shows("onto itself", z, 0, 1, 2, 3, 4);
    }

    /** copy: no places at all, the place right behind the last one, and the first that is not there */
    private static void copyNothing() {
        Edges.range("copy none: place", 0, 4, v -> twoRows().copy(0, v, 1, 0, 0), v -> 0, Due.INDEX);
        Edges.range("copy none: at", 0, 3, v -> twoRows().copy(0, 0, 1, v, 0), v -> 0, Due.INDEX);
        NotWorn x = new NotWorn();
        x.sheet(0, 0, 0);
        Due.is("of no places none", x.copy(0, 0, 0, 0, 0), 0);
        Due.is("of no places one", x.copy(0, 0, 0, 0, 1), Due.INDEX);
    }

    /** "INDEX: there is no such place", though sums of places wrap around */
    private static void copyWrapsNowhere() {
        int most = Integer.MAX_VALUE;
        int least = Integer.MIN_VALUE;
        int[][] wrong = {{1, 0, most}, {0, 1, most}, {1, 1, most}, {most, 0, 1}, {0, most, 1}, {most, most, most},
            {most, most, 2}, {least, 0, least}, {0, least, least}, {4, 3, least}, {1, 1, -1}, {4, 3, -3}, {-1, 0, 1},
            {0, -1, 1}, {-1, -1, 0}, {5, 4, -1}};
        for (int[] one : wrong) {
            NotWorn x = twoRows();
            Due.is("copy " + one[0] + ", " + one[1] + ", " + one[2], x.copy(0, one[0], 1, one[1], one[2]), Due.INDEX);
            Edges.shows("as it was", x, 1, 5, 6, 7);
        }
    }

    /** copy: "BAD; NOTHING; KIND: they are not of one sort; INDEX" */
    private static void copyOrder() {
        NotWorn x = twoRows();
        x.sheet(2, 1, 2);
        Due.is("BAD ahead of NOTHING", x.copy(4, 9, 3, 9, 9), Due.BAD);
        Due.is("BAD ahead of NOTHING, to", x.copy(3, 9, 4, 9, 9), Due.BAD);
        Due.is("BAD ahead of NOTHING, below", x.copy(3, 9, -1, 9, 9), Due.BAD);
        Due.is("NOTHING ahead of INDEX, from", x.copy(3, 9, 0, 9, 9), Due.NOTHING);
        Due.is("NOTHING ahead of INDEX, to", x.copy(0, 9, 3, 9, 9), Due.NOTHING);
        Due.is("KIND ahead of INDEX", x.copy(0, 9, 2, 9, 9), Due.KIND);
        Due.is("KIND the other way", x.copy(2, 0, 0, 0, 1), Due.KIND);
        Due.is("KIND of no places", x.copy(2, 0, 0, 0, 0), Due.KIND);
        Due.is("INDEX", x.copy(0, 9, 1, 9, 9), Due.INDEX);
    }

    /** copy: places of floats "as they were", NO NUMBER, too */
    private static void copyNoNumbers() {
        NotWorn x = new NotWorn();
        Edges.fill(x, 0, 1, Due.NONE, -99999, 99999);
        x.sheet(1, 1, 3);
        Due.is("copy floats", x.copy(0, 0, 1, 0, 3), 3);
        Edges.shows("floats", x, 1, Due.KIND, -99999, 99999);
    }

    /** lay: "thing 0 nothing, 1 the one with number k, 2 SHEET k, 3 the number k: what it held (0 .. 3). BAD: .. k" */
    private static void layThings() {
        Edges.range("lay: thing", 0, 3, v -> new NotWorn().lay(0, v, 0), v -> 0);
        Edges.range("lay: one of PEOPLE", 0, 9, v -> Edges.people(10).lay(0, 1, v), v -> 0);
        Edges.range("lay: a SHEET that is MISSING", 0, 3, v -> new NotWorn().lay(0, 2, v), v -> Due.NOTHING);
        NotWorn x = Edges.people(1);
        x.sheet(0, 0, 0);
        int[] things = {0, 1, 1, 2, 2, 3, 3, 0, 2, 0, 3, 1, 3, 2, 1, 0};
        int held = 0;
        for (int thing : things) {
            Due.is("lay " + thing + " upon " + held, x.lay(4, thing, 0), held);
            held = thing;
        }
        for (int k : new int[] {Integer.MIN_VALUE, -1, 4, Integer.MAX_VALUE}) {
            Due.is("lay nothing, k " + k, x.lay(0, 0, k), 0);
            Due.is("lay a number " + k, x.lay(1, 3, k), k == Integer.MIN_VALUE ? 0 : 3);
        }
        Due.is("lay one, refused", x.lay(1, 1, 1), Due.BAD);
        Due.is("lay a SHEET, refused", x.lay(1, 2, 1), Due.NOTHING);
        Due.is("it holds what it held", x.lay(1, 0, 0), 3);
    }

    /** "one of PEOPLE (as it is then, for good)" */
    private static void layOneForGood() {
        NotWorn x = Edges.one(3, 10, 0);
        x.lay(0, 1, 0);
        x.set(0, 1, 20);
        x.turns(0, 5);
        x.set(0, 3, 0);
        Due.is("worth as it was", x.ask(0, 1), 34);
        Due.is("KIND as it was", x.ask(0, 5), Due.KIND);
        NotWorn y = new NotWorn();
        y.keep();
        y.person(2, 10, 0);
        y.lay(0, 1, 0);
        y.back();
        Due.is("nobody", y.count(0), 0);
        Due.is("worth, though it is no more", y.ask(0, 2), 190);
    }

    /** "a SHEET (a row of its own, as it was then)" */
    private static void laySheetAsItWas() {
        NotWorn x = twoRows();
        x.lay(0, 2, 0);
        x.mark(0, 0, 9);
        Due.is("as it was", x.item(0, 0), 1);
        x.sheet(0, -1, 0);
        Due.is("though it is MISSING", x.item(0, 3), 4);
        x.sheet(0, 0, 24);
        Due.is("its own end", x.item(0, 4), Due.INDEX);
        x.lay(1, 2, 1);
        x.lay(0, 2, 1);
        Due.is("another one", x.item(0, 0), 5);
        Due.is("its end", x.item(0, 3), Due.INDEX);
    }

    /** "or a number" */
    private static void layNumbers() {
        NotWorn x = new NotWorn();
        for (int k : new int[] {Integer.MAX_VALUE, -Integer.MAX_VALUE, 0, -1, Due.NONE, Due.BAD}) {
            x.lay(0, 3, k);
            Due.is("the number " + k, x.rest(0, Integer.MIN_VALUE), k);
        }
    }

    /** ask: "WORTH of the one in a SLOT, taken for one of a KIND (0 .. 5)"; "KIND: .. not of that KIND, nor of one under it" */
    private static void askKinds() {
        int[] under = {0b000001, 0b000011, 0b000101, 0b001011, 0b010101, 0b100001};
        int[] worths = {50, 57, 150, 114, 141, 3};
        for (int kind = 0; kind < 6; kind++) {
            NotWorn x = Edges.one(kind, 50, 0);
            x.lay(0, 1, 0);
            for (int asked = 0; asked < 6; asked++) {
                boolean is = (under[kind] >> asked & 1) != 0;
                Due.is("ask " + kind + " for " + asked, x.ask(0, asked), is ? worths[kind] : Due.KIND);
            }
            Due.is("ask " + kind + " for -1", x.ask(0, -1), Due.BAD);
            Due.is("ask " + kind + " for 6", x.ask(0, 6), Due.BAD);
        }
    }

    private static NotWorn slots() {
        NotWorn x = Edges.one(0, 7, 0);
        x.sheet(0, 0, 1);
        x.lay(1, 1, 0);
        x.lay(2, 2, 0);
        x.lay(3, 3, 5);
        return x;
    }

    /** ask: "BAD; NOTHING; KIND: it is none of PEOPLE" */
    private static void askOrder() {
        NotWorn x = slots();
        Due.is("BAD slot", x.ask(5, 6), Due.BAD);
        Due.is("BAD kind ahead of NOTHING", x.ask(0, 6), Due.BAD);
        Due.is("BAD kind ahead of KIND", x.ask(2, -1), Due.BAD);
        Due.is("NOTHING", x.ask(0, 5), Due.NOTHING);
        Due.is("one", x.ask(1, 0), 7);
        Due.is("a SHEET", x.ask(2, 0), Due.KIND);
        Due.is("a number", x.ask(3, 0), Due.KIND);
    }

    /** item: "INDEX; KIND: NO NUMBER" */
    private static void itemPlaces() {
        Edges.range("item: place", 0, 3, v -> {
            NotWorn x = twoRows();
            x.lay(0, 2, 0);
            return x.item(0, v);
        }, v -> v + 1, Due.INDEX);
        NotWorn x = new NotWorn();
        x.sheet(0, 0, 24);
        x.mark(0, 23, 9);
        x.lay(0, 2, 0);
        Due.is("the last of 24", x.item(0, 23), 9);
        Due.is("behind the last of 24", x.item(0, 24), Due.INDEX);
        x.sheet(0, 1, 0);
        x.lay(0, 2, 0);
        Due.is("of no places", x.item(0, 0), Due.INDEX);
        Edges.fill(x, 0, 1, -99999, Due.NONE, 99999);
        x.lay(0, 2, 0);
        Due.is("the least", x.item(0, 0), -99999);
        Due.is("NO NUMBER", x.item(0, 1), Due.KIND);
        Due.is("the most", x.item(0, 2), 99999);
    }

    /** item: "BAD: slot; NOTHING; KIND: it is no SHEET; INDEX" */
    private static void itemOrder() {
        NotWorn x = slots();
        Due.is("BAD", x.item(-1, -1), Due.BAD);
        Due.is("NOTHING ahead of INDEX", x.item(0, -1), Due.NOTHING);
        Due.is("one, KIND ahead of INDEX", x.item(1, -1), Due.KIND);
        Due.is("a number, KIND ahead of INDEX", x.item(3, 99), Due.KIND);
        Due.is("a SHEET", x.item(2, 0), 0);
        Due.is("INDEX", x.item(2, 1), Due.INDEX);
    }

    private static int rest(int number, int by) {
        NotWorn x = new NotWorn();
        x.lay(0, 3, number);
        return x.rest(0, by);
    }

    /** rest: "The rest of the number in a SLOT by n"; "/ cuts towards 0" */
    private static void restSigns() {
        int[][] due = {{7, 3, 1}, {-7, 3, -1}, {7, -3, 1}, {-7, -3, -1}, {0, 5, 0}, {5, 5, 0}, {5, 6, 5}, {5, 1, 0},
            {5, -1, 0}, {Integer.MIN_VALUE, -1, 0}, {Integer.MIN_VALUE, 1, 0}, {Integer.MIN_VALUE, 10, -8},
            {Integer.MAX_VALUE, 10, 7}, {Integer.MIN_VALUE, Integer.MIN_VALUE, 0},
            {Integer.MIN_VALUE, Integer.MAX_VALUE, -1}, {-1, Integer.MIN_VALUE, -1}};
        for (int[] one : due) {
            Due.is("rest of " + one[0] + " by " + one[1], rest(one[0], one[1]), one[2]);
        }
    }

    /** rest: "BAD: slot; NOTHING; KIND: it is no number; NO: n is 0" */
    private static void restOrder() {
        NotWorn x = slots();
        Due.is("BAD ahead of NO", x.rest(5, 0), Due.BAD);
        Due.is("NOTHING ahead of NO", x.rest(0, 0), Due.NOTHING);
        Due.is("one, KIND ahead of NO", x.rest(1, 0), Due.KIND);
        Due.is("a SHEET, KIND ahead of NO", x.rest(2, 0), Due.KIND);
        Due.is("NO", x.rest(3, 0), Due.NO);
        Due.is("by 1", x.rest(3, 1), 0);
        Due.is("by -1", x.rest(3, -1), 0);
    }
}
