/** Promises 32 to 40: sheets and slots. */
public final class SheetsTest {
    public static void main(String[] args) {
        sheet();
        mark();
        pour();
        reads();
        copy();
        lay();
        ask();
        item();
        rest();
        Due.end();
    }

    private static void sheet() {
        NotWorn x = new NotWorn();
        Due.is("sheet", x.sheet(0, 0, 24), 24);
        Due.is("sheet of no places", x.sheet(3, 1, 0), 0);
        Due.is("sheet 25 places", x.sheet(0, 0, 25), Due.BAD);
        Due.is("sheet -1 places", x.sheet(0, 1, -1), Due.SIZE);
        Due.is("sheet least places", x.sheet(0, 1, Integer.MIN_VALUE), Due.SIZE);
        Due.is("sheet -1", x.sheet(-1, 0, 1), Due.BAD);
        Due.is("sheet 4", x.sheet(4, 0, 1), Due.BAD);
        Due.is("sheet sort -2", x.sheet(0, -2, 1), Due.BAD);
        Due.is("sheet sort 2", x.sheet(0, 2, 1), Due.BAD);
        Due.is("sheet BAD ahead of SIZE", x.sheet(4, 0, -1), Due.BAD);
        Due.is("sheet still there", x.mark(0, 23, 5), 1);
        x.mark(0, 0, 5);
        Due.is("sheet anew", x.sheet(0, 0, 24), 24);
        x.lay(0, 2, 0);
        Due.is("sheet all 0", x.item(0, 23), 0);
        Due.is("sheet all 0 from the first", x.item(0, 0), 0);
        Due.is("sheet missing", x.sheet(0, -1, 99), 0);
        Due.is("sheet missing, n below 0", x.sheet(0, -1, -7), 0);
        Due.is("sheet is missing", x.mark(0, 0, 0), Due.NOTHING);
        Due.is("sheet 4 missing", x.sheet(4, -1, 0), Due.BAD);
    }

    private static void mark() {
        NotWorn x = new NotWorn();
        Due.is("mark missing", x.mark(0, 0, 0), Due.NOTHING);
        Due.is("mark sheet 4", x.mark(4, 0, 0), Due.BAD);
        Due.is("mark sheet -1", x.mark(-1, 0, 0), Due.BAD);
        x.sheet(0, 0, 2);
        Due.is("mark short", marked(x, 0, 1, 32767), 32767);
        Due.is("mark short wraps", marked(x, 0, 1, 32768), -32768);
        Due.is("mark short lowest bits", marked(x, 0, 1, 65536 * 7 + 9), 9);
        Due.is("mark short least", marked(x, 0, 1, Integer.MIN_VALUE), 0);
        Due.is("mark short -1", marked(x, 0, 1, -1), -1);
        Due.is("mark INDEX 2", x.mark(0, 2, 0), Due.INDEX);
        Due.is("mark INDEX -1", x.mark(0, -1, 0), Due.INDEX);
        Due.is("mark KIND", x.mark(0, 0, Due.NONE), Due.KIND);
        Due.is("mark INDEX ahead of KIND", x.mark(0, 2, Due.NONE), Due.INDEX);
        x.sheet(1, 1, 2);
        Due.is("mark float", marked(x, 1, 1, 99999), 99999);
        Due.is("mark float below 0", marked(x, 1, 1, -99999), -99999);
        Due.is("mark float too much", x.mark(1, 1, 100000), Due.BAD);
        Due.is("mark float too little", x.mark(1, 1, -100000), Due.BAD);
        Due.is("mark INDEX ahead of BAD", x.mark(1, 2, 100000), Due.INDEX);
        Due.is("mark no number", marked(x, 1, 1, Due.NONE), Due.KIND);
        Due.is("mark a number again", marked(x, 1, 1, 0), 0);
    }

    private static int marked(NotWorn x, int sheet, int place, int v) {
        Due.is("mark", x.mark(sheet, place, v), 1);
        x.lay(4, 2, sheet);
        return x.item(4, place);
    }

    private static void pour() {
        NotWorn x = new NotWorn();
        for (int i = 0; i < 4; i++) {
            x.person(0, 10 + i, 0);
        }
        x.sheet(0, 1, 3);
        x.mark(0, 0, Due.NONE);
        x.mark(0, 1, -99999);
        x.mark(0, 2, 99999);
        Due.is("pour", x.pour(0), 2);
        Due.is("pour: no number stays", x.told(0, 1), 10);
        Due.is("pour: 0 at least", x.told(1, 1), 0);
        Due.is("pour: 124 at most", x.told(2, 1), 124);
        Due.is("pour: beyond stays", x.told(3, 1), 13);
        Due.is("pour again", x.pour(0), 0);
        x.sheet(1, 0, 24);
        x.mark(1, 0, 10);
        Due.is("pour a longer one", x.pour(1), 2);
        x.mark(1, 0, 11);
        Due.is("pour the first", x.pour(1), 1);
        Due.is("pour: the first", x.told(0, 1), 11);
        Due.is("pour missing", x.pour(2), Due.NOTHING);
        Due.is("pour 4", x.pour(4), Due.BAD);
        Due.is("pour -1", x.pour(-1), Due.BAD);
        Due.is("pour brings nobody", x.count(0), 4);
    }

    private static void reads() {
        NotWorn x = new NotWorn();
        x.person(0, 10, 0);
        x.person(0, 0, 0);
        x.sheet(0, 1, 4);
        Due.is("reads", x.reads(0), 0);
        x.mark(0, 0, 10);
        Due.is("reads: none of PEOPLE", x.reads(0), 2);
        x.mark(0, 2, Due.NONE);
        Due.is("reads: the next", x.reads(0), 3);
        x.mark(0, 3, Due.NONE);
        Due.is("reads: none", x.reads(0), Due.NONE);
        x.mark(0, 0, Due.NONE);
        Due.is("reads: no number", x.reads(0), Due.NONE);
        x.sheet(1, 0, 0);
        Due.is("reads: no places", x.reads(1), Due.NONE);
        Due.is("reads missing", x.reads(2), Due.NOTHING);
        Due.is("reads 4", x.reads(4), Due.BAD);
        Due.is("reads -1", x.reads(-1), Due.BAD);
    }

    private static void copy() {
        NotWorn x = new NotWorn();
        x.sheet(0, 0, 6);
        for (int i = 0; i < 6; i++) {
            x.mark(0, i, 10 + i);
        }
        x.sheet(1, 0, 4);
        x.sheet(2, 1, 6);
        Due.is("copy", x.copy(0, 3, 1, 1, 3), 3);
        row(x, 1, 0, 13, 14, 15);
        Due.is("copy forwards within", x.copy(0, 0, 0, 2, 4), 4);
        row(x, 0, 10, 11, 10, 11, 12, 13);
        Due.is("copy backwards within", x.copy(0, 1, 0, 0, 5), 5);
        row(x, 0, 11, 10, 11, 12, 13, 13);
        Due.is("copy nothing", x.copy(0, 6, 1, 4, 0), 0);
        Due.is("copy place -1", x.copy(0, -1, 1, 0, 1), Due.INDEX);
        Due.is("copy at -1", x.copy(0, 0, 1, -1, 1), Due.INDEX);
        Due.is("copy beyond", x.copy(0, 5, 1, 0, 2), Due.INDEX);
        Due.is("copy beyond there", x.copy(0, 0, 1, 3, 2), Due.INDEX);
        Due.is("copy fewer than none", x.copy(0, 0, 1, 0, -1), Due.INDEX);
        Due.is("copy the most", x.copy(0, 1, 1, 1, Integer.MAX_VALUE), Due.INDEX);
        Due.is("copy from the farthest", x.copy(0, Integer.MAX_VALUE, 1, 0, 1), Due.INDEX);
        Due.is("copy KIND", x.copy(0, 0, 2, 0, 1), Due.KIND);
        Due.is("copy KIND ahead of INDEX", x.copy(0, 0, 2, 0, 99), Due.KIND);
        Due.is("copy NOTHING", x.copy(0, 0, 3, 0, 1), Due.NOTHING);
        Due.is("copy NOTHING from", x.copy(3, 0, 0, 0, 99), Due.NOTHING);
        Due.is("copy BAD", x.copy(4, 0, 3, 0, 1), Due.BAD);
        Due.is("copy BAD to", x.copy(3, 0, -1, 0, 1), Due.BAD);
        row(x, 1, 0, 13, 14, 15);
    }

    private static void row(NotWorn x, int sheet, int... cells) {
        x.lay(4, 2, sheet);
        for (int i = 0; i < cells.length; i++) {
            Due.is("place " + i + " of " + sheet, x.item(4, i), cells[i]);
        }
        Due.is("end of " + sheet, x.item(4, cells.length), Due.INDEX);
    }

    private static void lay() {
        NotWorn x = new NotWorn();
        x.person(0, 1, 0);
        x.sheet(0, 0, 1);
        Due.is("lay one", x.lay(0, 1, 0), 0);
        Due.is("lay a sheet", x.lay(0, 2, 0), 1);
        Due.is("lay a number", x.lay(0, 3, Integer.MIN_VALUE), 2);
        Due.is("lay nothing", x.lay(0, 0, 99), 3);
        Due.is("lay the last slot", x.lay(4, 3, 1), 0);
        Due.is("lay slot 5", x.lay(5, 0, 0), Due.BAD);
        Due.is("lay slot -1", x.lay(-1, 0, 0), Due.BAD);
        Due.is("lay thing 4", x.lay(4, 4, 0), Due.BAD);
        Due.is("lay thing -1", x.lay(4, -1, 0), Due.BAD);
        Due.is("lay one that is none", x.lay(4, 1, 1), Due.BAD);
        Due.is("lay one below 0", x.lay(4, 1, -1), Due.BAD);
        Due.is("lay sheet 4", x.lay(4, 2, 4), Due.BAD);
        Due.is("lay sheet -1", x.lay(4, 2, -1), Due.BAD);
        Due.is("lay a missing sheet", x.lay(4, 2, 1), Due.NOTHING);
        Due.is("lay: it holds what it held", x.lay(4, 0, 0), 3);
    }

    private static void ask() {
        NotWorn x = new NotWorn();
        x.person(4, 20, 0);
        x.person(3, 20, 0);
        x.lay(0, 1, 0);
        x.lay(1, 1, 1);
        Due.is("ask a king", x.ask(0, 4), 171);
        Due.is("ask a king for a saint", x.ask(0, 2), 171);
        Due.is("ask a king for one", x.ask(0, 0), 171);
        Due.is("ask a king for one away", x.ask(0, 1), Due.KIND);
        Due.is("ask a lost one", x.ask(1, 1), 54);
        x.turns(0, 5);
        x.set(0, 1, 3);
        Due.is("ask for good", x.ask(0, 4), 171);
        x.keep();
        x.lay(1, 3, 9);
        Due.is("ask a number", x.ask(1, 0), Due.KIND);
        x.back();
        Due.is("slots stay", x.ask(1, 0), Due.KIND);
        Due.is("ask nothing", x.ask(2, 0), Due.NOTHING);
        Due.is("ask kind 6", x.ask(0, 6), Due.BAD);
        Due.is("ask kind -1", x.ask(2, -1), Due.BAD);
        Due.is("ask slot 5", x.ask(5, 0), Due.BAD);
        Due.is("ask slot -1", x.ask(-1, 0), Due.BAD);
        x.sheet(0, 0, 1);
        x.lay(3, 2, 0);
        Due.is("ask a sheet", x.ask(3, 0), Due.KIND);
    }

    private static void item() {
        NotWorn x = new NotWorn();
        x.sheet(0, 1, 3);
        x.mark(0, 0, 7);
        x.mark(0, 1, Due.NONE);
        x.lay(0, 2, 0);
        x.mark(0, 0, 8);
        x.sheet(0, -1, 0);
        Due.is("item as it was", x.item(0, 0), 7);
        Due.is("item no number", x.item(0, 1), Due.KIND);
        Due.is("item 0", x.item(0, 2), 0);
        Due.is("item 3", x.item(0, 3), Due.INDEX);
        Due.is("item -1", x.item(0, -1), Due.INDEX);
        Due.is("item of nothing", x.item(1, 0), Due.NOTHING);
        x.lay(1, 3, 0);
        Due.is("item of a number", x.item(1, 0), Due.KIND);
        Due.is("item slot 5", x.item(5, 0), Due.BAD);
        Due.is("item slot -1", x.item(-1, 0), Due.BAD);
    }

    private static void rest() {
        NotWorn x = new NotWorn();
        x.lay(0, 3, 17);
        Due.is("rest", x.rest(0, 5), 2);
        Due.is("rest by -5", x.rest(0, -5), 2);
        Due.is("rest by 0", x.rest(0, 0), Due.NO);
        x.lay(0, 3, -17);
        Due.is("rest below 0", x.rest(0, 5), -2);
        x.lay(0, 3, Integer.MIN_VALUE);
        Due.is("rest by -1", x.rest(0, -1), 0);
        Due.is("rest of nothing", x.rest(1, 0), Due.NOTHING);
        x.person(0, 0, 0);
        x.lay(1, 1, 0);
        Due.is("rest of one", x.rest(1, 0), Due.KIND);
        Due.is("rest slot 5", x.rest(5, 1), Due.BAD);
        Due.is("rest slot -1", x.rest(-1, 0), Due.BAD);
    }
}
