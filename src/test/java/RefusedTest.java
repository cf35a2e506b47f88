import java.util.function.ToIntFunction;

/**
 * "A call that is refused answers one of BAD, NO, FULL, or a FINDING, of several the one that stands first with it, and
 * changes nothing (but the tape and the numbers that wait, where told)."
 */
public final class RefusedTest {
    private static final int LEAST = Integer.MIN_VALUE;
    private static final int MOST = Integer.MAX_VALUE;

    public static void main(String[] args) {
        kindsAndPeople();
        namesAndYears();
        setsAndLots();
        children();
        thoughts();
        textsAndTape();
        sheets();
        marks();
        copies();
        slots();
        images();
        whatIsFull();
        onlyAsked();
        readersUseUp();
        Due.end();
    }

    /** Refused where there is some of all, where everything is full, and where nothing is there. */
    private static void bad(String what, ToIntFunction<NotWorn> call) {
        everywhere(what, call, Due.BAD);
    }

    private static void everywhere(String what, ToIntFunction<NotWorn> call, int due) {
        some(what, call, due);
        full(what, call, due);
        empty(what, call, due);
    }

    private static void some(String what, ToIntFunction<NotWorn> call, int due) {
        Twins.unchanged(what + " with some", Twins::some, call, due);
    }

    private static void full(String what, ToIntFunction<NotWorn> call, int due) {
        Twins.unchanged(what + " with all", Twins::full, call, due);
    }

    private static void empty(String what, ToIntFunction<NotWorn> call, int due) {
        Twins.unchanged(what + " with none", Twins::empty, call, due);
    }

    private static void kindsAndPeople() {
        for (int v : new int[] {LEAST, -1, 6, MOST}) {
            bad("person kind " + v, x -> x.person(v, 0, 0));
            bad("as kind " + v, x -> x.as(0, v));
            bad("turns kind " + v, x -> x.turns(0, v));
            bad("told what " + v, x -> x.told(0, v));
        }
        for (int v : new int[] {LEAST, -1, 10, MOST}) {
            bad("told " + v, x -> x.told(v, 0));
            bad("as " + v, x -> x.as(v, 0));
            bad("turns " + v, x -> x.turns(v, 0));
            bad("set " + v, x -> x.set(v, 1, 0));
            bad("holds " + v, x -> x.holds(v, 0));
            bad("yields " + v, x -> x.yields(v));
        }
        empty("told", x -> x.told(0, 0), Due.BAD);
        empty("turns", x -> x.turns(0, 1), Due.BAD);
        empty("set", x -> x.set(0, 1, 1), Due.BAD);
        some("turns one too far", x -> x.turns(4, 1), Due.BAD);
        some("set one too far", x -> x.set(4, 1, 1), Due.BAD);
        some("as", x -> x.as(3, 1), Due.KIND);
    }

    private static void namesAndYears() {
        for (int v : new int[] {LEAST, -1, 125, MOST, Due.NONE}) {
            bad("person name " + v, x -> x.person(0, v, 0));
            bad("set name " + v, x -> x.set(0, 1, v));
            bad("apart " + v, x -> x.apart(v, 0));
            bad("apart other " + v, x -> x.apart(0, v));
            bad("near " + v, x -> x.near(v, 0));
            bad("near other " + v, x -> x.near(0, v));
            bad("free " + v, x -> x.free(v, 0));
            bad("soonest " + v, x -> x.soonest(v));
            bad("stays " + v, x -> x.stays(v, 0));
        }
        for (int v : new int[] {LEAST, -1000, 100000, MOST}) {
            bad("holds in " + v, x -> x.holds(0, v));
            bad("free in " + v, x -> x.free(0, v));
        }
    }

    private static void setsAndLots() {
        for (int v : new int[] {LEAST, -1000, 11, 10000, MOST}) {
            bad("person born " + v, x -> x.person(0, 0, v));
            bad("set born " + v, x -> x.set(0, 2, v));
            bad("set died " + v, x -> x.set(0, 3, v));
        }
        bad("set name NONE", x -> x.set(0, 1, Due.NONE));
        bad("set born NONE", x -> x.set(0, 2, Due.NONE));
        some("set born behind DIED", x -> x.set(0, 2, 9), Due.BAD);
        some("set died ahead of BORN", x -> x.set(3, 3, 9), Due.BAD);
        for (int v : new int[] {LEAST, 0, 4, MOST}) {
            bad("set what " + v, x -> x.set(0, v, 1));
        }
        for (int v : new int[] {LEAST, -1, 201, MOST}) {
            bad("lifetime " + v, x -> x.lifetime(v));
        }
        for (int v : new int[] {LEAST, 0, 11, MOST}) {
            bad("deal " + v, x -> x.deal(v));
        }
    }

    private static void children() {
        for (int v : new int[] {LEAST, -1, 125, MOST}) {
            bad("child " + v, x -> x.child(v, 0));
            bad("child second " + v, x -> x.child(0, v));
        }
        for (int v : new int[] {LEAST, -1, 2, MOST}) {
            bad("frees " + v, x -> x.frees(v));
        }
        for (int v : new int[] {LEAST, -1, 8, MOST}) {
            bad("dealing " + v, x -> x.dealing(v));
        }
        some("dealing 4", x -> x.dealing(4), Due.BAD);
        empty("dealing 2", x -> x.dealing(2), Due.BAD);
    }

    private static void thoughts() {
        for (int v : new int[] {LEAST, 0, 101, MOST}) {
            bad("years " + v, x -> x.years(v));
            Twins.unchanged("years " + v + " in 9999", Twins::late, x -> x.years(v), Due.BAD);
        }
        Twins.unchanged("years in 9999", Twins::late, x -> x.years(100), 0);
        for (int v : new int[] {LEAST, -1, 101, MOST}) {
            bad("behind " + v, x -> x.behind(v, 0));
            bad("stays in " + v, x -> x.stays(0, v));
        }
        for (int v : new int[] {LEAST, -1, 3, MOST}) {
            bad("behind what " + v, x -> x.behind(1, v));
        }
        for (int v : new int[] {LEAST, -1, 4, MOST}) {
            bad("line " + v, x -> x.line(v));
        }
        everywhere("line of a missing one", x -> x.line(3), Due.NOTHING);
    }

    private static void textsAndTape() {
        for (int v : new int[] {LEAST, -1, 97, MOST}) {
            bad("trim " + v, x -> x.trim(v));
        }
        some("trim 13", x -> x.trim(13), Due.BAD);
        empty("trim 1", x -> x.trim(1), Due.BAD);
        for (int v : new int[] {LEAST, -1, 14, MOST}) {
            bad("textTold " + v, x -> x.textTold(v, 0));
        }
        some("textTold 2", x -> x.textTold(2, 0), Due.BAD);
        empty("textTold 0", x -> x.textTold(0, 0), Due.BAD);
        for (int v : new int[] {LEAST, -1, 2, MOST}) {
            bad("textTold what " + v, x -> x.textTold(0, v));
        }
        for (int v : new int[] {LEAST, -1, 3, MOST}) {
            bad("why " + v, x -> x.why(v));
        }
    }

    private static void sheets() {
        for (int v : new int[] {LEAST, -1, 4, MOST}) {
            bad("sheet " + v, x -> x.sheet(v, 0, 1));
            bad("sheet missing " + v, x -> x.sheet(v, -1, 1));
            bad("sheet with n below 0, " + v, x -> x.sheet(v, 0, -1));
            bad("mark sheet " + v, x -> x.mark(v, 0, 1));
            bad("pour " + v, x -> x.pour(v));
            bad("reads " + v, x -> x.reads(v));
        }
        for (int v : new int[] {LEAST, -2, 2, MOST}) {
            bad("sheet sort " + v, x -> x.sheet(0, v, 1));
        }
        for (int sort = 0; sort < 2; sort++) {
            int own = sort;
            bad("sheet 25", x -> x.sheet(0, own, 25));
            bad("sheet of the most", x -> x.sheet(1, own, MOST));
            everywhere("sheet -1", x -> x.sheet(0, own, -1), Due.SIZE);
            everywhere("sheet of the least", x -> x.sheet(1, own, LEAST), Due.SIZE);
        }
        everywhere("pour a missing one", x -> x.pour(3), Due.NOTHING);
        everywhere("reads a missing one", x -> x.reads(3), Due.NOTHING);
    }

    private static void marks() {
        everywhere("mark a missing one", x -> x.mark(3, 0, 1), Due.NOTHING);
        everywhere("mark a missing one nowhere", x -> x.mark(3, -1, Due.NONE), Due.NOTHING);
        for (int v : new int[] {LEAST, -1, 24, MOST}) {
            some("mark place " + v, x -> x.mark(0, v, 1), Due.INDEX);
            some("mark place NONE " + v, x -> x.mark(0, v, Due.NONE), Due.INDEX);
            full("mark place " + v, x -> x.mark(0, v, 1), Due.INDEX);
            full("mark place of floats " + v, x -> x.mark(1, v, 100000), Due.INDEX);
        }
        some("mark place 3", x -> x.mark(0, 3, 1), Due.INDEX);
        some("mark place 2 of floats", x -> x.mark(1, 2, 1), Due.INDEX);
        some("mark place 0 of none", x -> x.mark(2, 0, 1), Due.INDEX);
        some("mark NONE", x -> x.mark(0, 0, Due.NONE), Due.KIND);
        full("mark NONE", x -> x.mark(0, 23, Due.NONE), Due.KIND);
        for (int v : new int[] {LEAST, -100000, 100000, MOST}) {
            some("mark floats " + v, x -> x.mark(1, 0, v), Due.BAD);
            full("mark floats " + v, x -> x.mark(1, 5, v), Due.BAD);
        }
    }

    private static void copies() {
        for (int v : new int[] {LEAST, -1, 4, MOST}) {
            bad("copy from " + v, x -> x.copy(v, 0, 0, 0, 1));
            bad("copy to " + v, x -> x.copy(0, 0, v, 0, 1));
            bad("copy a missing one to " + v, x -> x.copy(3, 0, v, 0, 1));
        }
        everywhere("copy a missing one", x -> x.copy(3, 0, 0, 0, 1), Due.NOTHING);
        everywhere("copy to a missing one", x -> x.copy(0, 0, 3, 0, 1), Due.NOTHING);
        everywhere("copy a missing one to itself", x -> x.copy(3, -1, 3, 0, 1), Due.NOTHING);
        some("copy shorts to floats", x -> x.copy(0, 0, 1, 0, 1), Due.KIND);
        full("copy floats to shorts", x -> x.copy(1, 0, 0, 0, 99), Due.KIND);
        for (int v : new int[] {LEAST, -1, 25, MOST}) {
            some("copy place " + v, x -> x.copy(0, v, 0, 0, 1), Due.INDEX);
            some("copy at " + v, x -> x.copy(0, 0, 0, v, 1), Due.INDEX);
            some("copy many " + v, x -> x.copy(0, 0, 0, 0, v), Due.INDEX);
            full("copy place " + v, x -> x.copy(0, v, 0, 0, 0), Due.INDEX);
            full("copy at " + v, x -> x.copy(0, 0, 0, v, 0), Due.INDEX);
            full("copy many " + v, x -> x.copy(0, 1, 0, 0, v), Due.INDEX);
        }
        full("copy behind the last", x -> x.copy(0, 24, 0, 0, 1), Due.INDEX);
        full("copy too many there", x -> x.copy(0, 0, 0, 1, 24), Due.INDEX);
        full("copy too many from there", x -> x.copy(0, 1, 0, 0, 24), Due.INDEX);
        full("copy to one of no places", x -> x.copy(0, 0, 2, 0, 1), Due.INDEX);
    }

    private static void slots() {
        for (int v : new int[] {LEAST, -1, 5, MOST}) {
            bad("lay in " + v, x -> x.lay(v, 3, 1));
            bad("ask " + v, x -> x.ask(v, 0));
            bad("item " + v, x -> x.item(v, 0));
            bad("rest " + v, x -> x.rest(v, 0));
        }
        for (int v : new int[] {LEAST, -1, 4, MOST}) {
            bad("lay thing " + v, x -> x.lay(1, v, 0));
            bad("lay sheet " + v, x -> x.lay(1, 2, v));
        }
        for (int v : new int[] {LEAST, -1, 10, MOST}) {
            bad("lay one " + v, x -> x.lay(1, 1, v));
        }
        for (int v : new int[] {LEAST, -1, 6, MOST}) {
            bad("ask kind " + v, x -> x.ask(1, v));
        }
        some("lay one too far", x -> x.lay(1, 1, 4), Due.BAD);
        empty("lay nobody", x -> x.lay(1, 1, 0), Due.BAD);
        everywhere("lay a missing one", x -> x.lay(1, 2, 3), Due.NOTHING);
        full("rest by 0", x -> x.rest(3, 0), Due.NO);
        full("rest of nothing", x -> x.rest(4, 0), Due.NOTHING);
        full("rest of a sheet", x -> x.rest(1, 0), Due.KIND);
        full("item of one", x -> x.item(0, -1), Due.KIND);
        full("item of nothing", x -> x.item(4, -1), Due.NOTHING);
        full("item behind the last", x -> x.item(1, 24), Due.INDEX);
        full("item that is no number", x -> x.item(2, 0), Due.KIND);
        full("ask a sheet", x -> x.ask(1, 0), Due.KIND);
        full("ask a number", x -> x.ask(3, 0), Due.KIND);
        full("ask nothing", x -> x.ask(4, 0), Due.NOTHING);
    }

    private static void images() {
        empty("back", NotWorn::back, Due.NO);
        empty("check", x -> x.check(1), Due.NO);
        Twins.unchanged("back to no image", () -> Edges.people(3), NotWorn::back, Due.NO);
        for (int v : new int[] {LEAST, -1, 9, MOST}) {
            bad("count " + v, x -> x.count(v));
        }
    }

    private static void whatIsFull() {
        full("an eleventh", x -> x.person(0, 0, 0), Due.FULL);
        full("an eleventh, KIND 5", x -> x.person(5, 124, -999), Due.FULL);
        full("BAD ahead of FULL", x -> x.person(0, 125, 0), Due.BAD);
        full("none comes", x -> x.deal(1), 0);
        full("none of ten comes", x -> x.deal(10), 0);
        full("a seventh child", x -> x.child(0, 0), Due.FULL);
        full("a 97th byte", x -> x.feed(1, 2, 3), Due.FULL);
        full("a 61st number", x -> x.tell(7), Due.FULL);
    }

    /** Calls that only tell leave everything as it was, too. */
    private static void onlyAsked() {
        Twins.Way[] ways = {Twins::some, Twins::full, Twins::empty};
        for (Twins.Way way : ways) {
            Twins.unchanged("ends", way, x -> x.ends() * 0, 0);
            Twins.unchanged("behind", way, x -> x.behind(100, 0) * 0, 0);
            Twins.unchanged("stays", way, x -> x.stays(5, 100) * 0, 0);
            Twins.unchanged("soonest", way, x -> x.soonest(5) * 0, 0);
            Twins.unchanged("line", way, x -> x.line(0) * 0, 0);
            Twins.unchanged("dealing", way, x -> x.dealing(0) * 0, 0);
            Twins.unchanged("yields", way, x -> x.yields(0) * 0, 0);
            Twins.unchanged("reads", way, x -> x.reads(0) * 0, 0);
            Twins.unchanged("fine", way, x -> x.fine() * 0, 0);
            Twins.unchanged("frees", way, x -> x.frees(1) * 0, 0);
        }
    }

    /** "(but the tape and the numbers that wait, where told)": those are used up, and nothing else changes */
    private static void readersUseUp() {
        Twins.alike("text, FULL", Twins::full, NotWorn::text, Due.FULL, Twins::fullWithoutTape);
        Twins.alike("text with a fault", () -> {
            NotWorn x = Twins.someWithoutTape();
            Due.tape(x, "near d d");
            return x;
        }, NotWorn::text, -107, Twins::someWithoutTape);
        Twins.alike("text with a fault ahead of FULL", () -> {
            NotWorn x = Twins.fullWithoutTape();
            Due.tape(x, "near d+");
            return x;
        }, NotWorn::text, -107, Twins::fullWithoutTape);
        for (int v : new int[] {LEAST, 0, 31, MOST}) {
            Twins.alike("check " + v, Twins::some, x -> x.check(v), Due.BAD, Twins::someWithoutRow);
            Twins.alike("check " + v, Twins::full, x -> x.check(v), Due.BAD, Twins::fullWithoutRow);
        }
        Twins.alike("check, NO", () -> {
            NotWorn x = Edges.people(2);
            x.tell(1);
            return x;
        }, x -> x.check(1), Due.NO, () -> Edges.people(2));
        Twins.alike("check, wrong", Twins::some, x -> x.check(30) > 0 ? 1 : 0, 1, Twins::someWithoutRow);
    }
}
