import java.util.function.ToIntFunction;

/**
 * Two objects that have gone the same way, and a call that only the one is refused: no answer behind it may tell them
 * apart. What is asked then uses up the two, so each refused call has twins of its own.
 */
final class Twins {
    /** What a twin has gone through. */
    interface Way {
        NotWorn go();
    }

    private final String what;
    private final NotWorn refused;
    private final NotWorn other;

    private Twins(String what, NotWorn refused, NotWorn other) {
        this.what = what;
        this.refused = refused;
        this.other = other;
    }

    /** The other one isn't called at all. */
    static void unchanged(String what, Way way, ToIntFunction<NotWorn> call, int due) {
        alike(what, way, call, due, way);
    }

    /** The other one has gone where the call is to leave the one. */
    static void alike(String what, Way way, ToIntFunction<NotWorn> call, int due, Way otherWay) {
        Twins twins = new Twins(what, way.go(), otherWay.go());
        Due.is(what, call.applyAsInt(twins.refused), due);
        twins.askAll();
    }

    private void same(String asked, ToIntFunction<NotWorn> call) {
        Due.is(what + ", then " + asked, call.applyAsInt(refused), call.applyAsInt(other));
    }

    /** Some 300 calls on each: with what they have gone through below 512. */
    private void askAll() {
        valley();
        laws();
        rows();
        slots();
        sheets();
        same("check", x -> x.check(30));
        same("text", NotWorn::text);
        laws();
        same("back", NotWorn::back);
        valley();
        same("fine of the image", NotWorn::fine);
    }

    private void valley() {
        for (int w = 0; w < 9; w++) {
            int asked = w;
            same("count " + w, x -> x.count(asked));
        }
        for (int i = 0; i < 40; i++) {
            int at = i;
            same("told " + i, x -> x.told(at / 4, at % 4));
        }
        for (int i = 0; i < 8; i++) {
            int asked = i;
            same("dealing " + i, x -> x.dealing(asked));
        }
        same("frees", x -> x.frees(0));
        same("least", x -> x.frees(1));
        same("soonest", x -> x.soonest(100));
        same("behind", x -> x.behind(20, 0));
        same("ends", NotWorn::ends);
    }

    private void laws() {
        for (int key = 0; key < 3; key++) {
            int asked = key;
            same("why " + key, x -> x.why(asked));
        }
        for (int i = 0; i < 14; i++) {
            int asked = i;
            same("textTold " + i, x -> x.textTold(asked, 1));
        }
        for (int like = 0; like < 8; like++) {
            int other = Due.name(like & 1, like >> 1 & 1, like >> 2);
            same("near " + other, x -> x.near(0, other));
        }
        same("fine", NotWorn::fine);
    }

    private void rows() {
        for (int s = 0; s < 4; s++) {
            int asked = s;
            same("line " + s, x -> x.line(asked));
            same("reads " + s, x -> x.reads(asked));
        }
    }

    private void slots() {
        for (int s = 0; s < 5; s++) {
            int asked = s;
            same("ask " + s, x -> x.ask(asked, 0));
            same("rest " + s, x -> x.rest(asked, Integer.MIN_VALUE));
            items(s, 6);
        }
    }

    private void items(int slot, int many) {
        for (int place = 0; place < many; place++) {
            int asked = place;
            same("item " + place + " of " + slot, x -> x.item(slot, asked));
        }
    }

    /** Each SHEET through a SLOT, which is otherwise then: so SLOTS are asked ahead of this. */
    private void sheets() {
        int[] places = {25, 7, 1, 1};
        for (int s = 0; s < 4; s++) {
            int asked = s;
            same("lay " + s, x -> x.lay(0, 2, asked));
            same("rest behind lay " + s, x -> x.rest(0, 1));
            items(0, places[s]);
        }
    }

    /** Nothing there. */
    static NotWorn empty() {
        return new NotWorn();
    }

    /** Some of all: number 0 died two years ago, number 3 was born this year, 10. */
    static NotWorn some() {
        NotWorn x = someWithoutRow();
        x.tell(3);
        x.tell(4);
        return x;
    }

    static NotWorn someWithoutRow() {
        NotWorn x = someAtRest();
        x.feed(0x66696e65, 0x20372020, 0x20202020);
        return x;
    }

    static NotWorn someWithoutTape() {
        NotWorn x = someAtRest();
        x.tell(3);
        x.tell(4);
        return x;
    }

    /** Nothing on the tape, and no number waits. */
    private static NotWorn someAtRest() {
        NotWorn x = new NotWorn();
        x.years(6);
        x.seed(31);
        x.deal(3);
        Due.text(x, "near d<2");
        x.child(1, 2);
        x.child(2, 1);
        x.keep();
        x.years(4);
        x.person(0, 7, 10);
        x.set(0, 3, 8);
        x.lifetime(60);
        Due.text(x, "fine y+p");
        Edges.fill(x, 0, 0, 5, -6, 7);
        Edges.fill(x, 1, 1, 8, Due.NONE);
        x.sheet(2, 1, 0);
        x.lay(1, 1, 0);
        x.lay(2, 2, 0);
        x.lay(3, 2, 1);
        x.lay(4, 3, -7);
        return x;
    }

    /** Everything full: ten of PEOPLE, six CHILDREN, 14 TEXTS, 24 places, 60 numbers that wait, 96 bytes. */
    static NotWorn full() {
        NotWorn x = fullWithoutTape();
        Due.tape(x, "near " + "1+".repeat(45) + "1");
        return x;
    }

    static NotWorn fullWithoutTape() {
        NotWorn x = fullAtRest();
        for (int i = 0; i < 60; i++) {
            x.tell(i);
        }
        return x;
    }

    static NotWorn fullWithoutRow() {
        NotWorn x = fullAtRest();
        Due.tape(x, "near " + "1+".repeat(45) + "1");
        return x;
    }

    private static NotWorn fullAtRest() {
        NotWorn x = new NotWorn();
        x.seed(8);
        x.deal(10);
        for (int i = 0; i < 6; i++) {
            x.child(i, i / 2);
        }
        for (int i = 0; i < 14; i++) {
            Due.text(x, i % 2 == 0 ? "fine y*p+9" : i % 3 == 0 ? "near d<2" : "dies a+k");
        }
        x.keep();
        int[] row = new int[24];
        for (int i = 0; i < 24; i++) {
            row[i] = 5 * i;
        }
        Edges.fill(x, 0, 0, row);
        Edges.fill(x, 1, 1, Due.NONE, 99999, -99999, 7, 8, 9);
        x.sheet(2, 0, 0);
        x.lay(0, 1, 9);
        x.lay(1, 2, 0);
        x.lay(2, 2, 1);
        x.lay(3, 3, Integer.MAX_VALUE);
        return x;
    }

    /** THE YEAR is 9999, and one of PEOPLE is old. */
    static NotWorn late() {
        NotWorn x = Edges.inTheLastYear();
        x.person(0, 5, 9000);
        x.keep();
        return x;
    }
}
