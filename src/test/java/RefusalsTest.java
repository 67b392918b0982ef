import java.util.ArrayList;
import java.util.List;
import java.util.function.Supplier;
import java.util.function.ToLongFunction;

/**
 * DOC.md: "BAD .. NO: not as things stand. NONE: there is none. FULL. Of several
 * the first in this order, whatever the order at a call; nothing changes then."
 * Of two objects alike, one is asked for what it refuses: they stay alike, in
 * what can be undone and in what is kept, too.
 */
public final class RefusalsTest {
    private record Call(String told, long want, ToLongFunction<FloorOfProofs> asked) {
    }

    private static final List<Call> CALLS = new ArrayList<>();

    public static void main(String[] args) {
        Due.bound("Of several the first in this order, whatever the order at a call", RefusalsTest::order);
        Due.bound("nothing changes then.", RefusalsTest::changesNothing);
        Due.bound("NONE: there is none.", RefusalsTest::asking);
        Due.end("RefusalsTest");
    }

    private static void call(String told, long want, ToLongFunction<FloorOfProofs> asked) {
        CALLS.add(new Call(told, want, asked));
    }

    /** Each call refused on objects made so: as it is due, and the same as one that was not asked. */
    private static void each(String how, Supplier<FloorOfProofs> made) {
        String plain = State.unveiled(made.get());
        for (Call call : CALLS) {
            FloorOfProofs x = made.get();
            Due.due(how + ": " + call.told(), call.asked().applyAsLong(x), call.want());
            Due.due(how + ": " + call.told() + " changes nothing", State.unveiled(x).equals(plain) ? 1 : 0, 1);
        }
        CALLS.clear();
    }

    /** Ten steps, twelve told, two kept, eight that can be undone, 300 bytes. */
    private static FloorOfProofs full() {
        FloorOfProofs x = Due.floor("a0;a1;w2,99;t0,1,2;");
        x.keep();
        x.takeOut(3);
        x.keep();
        for (int t = 1; t < 10; t++) {
            x.lay(t % 2, t % 2, 2 + t / 9);
        }
        x.go(0);
        for (int i = 0; i < 12; i++) {
            x.tell(i % 10);
        }
        while (x.count(7) <= 292) {
            x.write(8, 0x61333b61333b6133L);
        }
        x.write(300 - x.count(7), 0);
        return x;
    }

    /** One of each: a step, told, kept, that can be undone. */
    private static FloorOfProofs some() {
        FloorOfProofs x = Due.floor("a0;t0,0,1;t1,1,2;t3,0,1;w1,4;x0,1;");
        x.keep();
        x.takeOut(3);
        x.tell(0);
        Due.write(x, "t0,1");
        return x;
    }

    private static void order() {
        // BAD ahead of FULL.
        call("write(0)", Due.BAD, x -> x.write(0, 'a'));
        call("write(9)", Due.BAD, x -> x.write(9, 'a'));
        call("write(-1)", Due.BAD, x -> x.write(-1, 'a'));
        call("lay(0, 1, 1)", Due.BAD, x -> x.lay(0, 1, 1));
        call("lay(1, 0, 1)", Due.BAD, x -> x.lay(1, 0, 1));
        call("lay(4, 0, 1)", Due.BAD, x -> x.lay(4, 0, 1));
        call("lay(0, 4, 1)", Due.BAD, x -> x.lay(0, 4, 1));
        call("lay(0, 0, 4)", Due.BAD, x -> x.lay(0, 0, 4));
        call("lay(0, 0, -1)", Due.BAD, x -> x.lay(0, 0, -1));
        call("tell(10)", Due.BAD, x -> x.tell(10));
        call("tell(-1)", Due.BAD, x -> x.tell(-1));
        each("full", RefusalsTest::full);
        // BAD ahead of NONE, NO ahead of NONE.
        call("needs(3, 2), in no reach", Due.BAD, x -> x.needs(3, 2));
        call("needs(3, -1), in no reach", Due.BAD, x -> x.needs(3, -1));
        call("needs(4, 0)", Due.BAD, x -> x.needs(4, 0));
        call("walk(3, 3), out", Due.BAD, x -> x.walk(3, 3));
        call("walk(3, -1), out", Due.BAD, x -> x.walk(3, -1));
        call("walk(0, 3), stood on", Due.BAD, x -> x.walk(0, 3));
        call("proofs(3, 3), no proof", Due.BAD, x -> x.proofs(3, 3));
        call("proofs(3, -1), no proof", Due.BAD, x -> x.proofs(3, -1));
        call("stone(4, 5)", Due.BAD, x -> x.stone(4, 5));
        call("step(3, 4)", Due.BAD, x -> x.step(3, 4));
        call("begin(3), out, and no step leads to it", Due.NO, x -> x.begin(3));
        call("lost(3), out", Due.NO, x -> x.lost(3));
        call("takeOut(3), out", Due.NO, x -> x.takeOut(3));
        call("year(-1, 100, 2)", Due.BAD, x -> x.year(-1, 100, 2));
        each("some", RefusalsTest::some);
    }

    private static void changesNothing() {
        for (int n = 1; n <= 8; n++) {
            int bytes = n;
            call("write(" + n + ")", Due.FULL, x -> x.write(bytes, -1));
        }
        call("layFloor()", Due.NO, FloorOfProofs::layFloor);
        call("go(0), C stood on", Due.NO, x -> x.go(0));
        call("go(9), C out", Due.NO, x -> x.go(9));
        call("go(10)", Due.BAD, x -> x.go(10));
        call("takeOut(3)", Due.NO, x -> x.takeOut(3));
        call("takeOut(4)", Due.BAD, x -> x.takeOut(4));
        call("lay(0, 0, 3)", Due.FULL, x -> x.lay(0, 0, 3));
        call("lay(1, 2, 3)", Due.FULL, x -> x.lay(1, 2, 3));
        call("tell(0)", Due.FULL, x -> x.tell(0));
        call("keep()", Due.FULL, FloorOfProofs::keep);
        each("full", RefusalsTest::full);
        call("layFloor()", Due.NO, FloorOfProofs::layFloor);
        call("go(1), A not stood on", Due.NO, x -> x.go(1));
        call("go(2), A out", Due.NO, x -> x.go(2));
        call("go(3)", Due.BAD, x -> x.go(3));
        call("go(-1)", Due.BAD, x -> x.go(-1));
        call("takeOut(-1)", Due.BAD, x -> x.takeOut(-1));
        call("lay(0, 0, 0)", Due.BAD, x -> x.lay(0, 0, 0));
        call("tell(3)", Due.BAD, x -> x.tell(3));
        call("write(0)", Due.BAD, x -> x.write(0, 0));
        call("write(9)", Due.BAD, x -> x.write(9, 0));
        call("reach(16)", Due.BAD, x -> x.reach(16));
        call("worn(0, 16)", Due.BAD, x -> x.worn(0, 16));
        call("round(4)", Due.BAD, x -> x.round(4));
        call("hall(2)", Due.BAD, x -> x.hall(2));
        call("count(8)", Due.BAD, x -> x.count(8));
        call("year(0, 0, 0)", Due.BAD, x -> x.year(0, 0, 0));
        each("some", RefusalsTest::some);
        call("undo()", Due.NO, FloorOfProofs::undo);
        call("back()", Due.NO, FloorOfProofs::back);
        call("layFloor()", Due.NO, FloorOfProofs::layFloor);
        each("new, told", () -> {
            FloorOfProofs x = new FloorOfProofs();
            x.tell(1);
            return x;
        });
    }

    /** What only asks changes nothing, whether there is an answer or none. */
    private static void asking() {
        call("fault()", 34, FloorOfProofs::fault);
        call("stone(0, 1)", 1, x -> x.stone(0, 1));
        call("step(0, 3)", 1, x -> x.step(0, 3));
        call("reach(1)", 7, x -> x.reach(1));
        call("walk(2, 0)", 2, x -> x.walk(2, 0));
        call("walk(2, 1)", 0, x -> x.walk(2, 1));
        call("walk(2, 2)", 1, x -> x.walk(2, 2));
        call("walk(0, 1)", Due.NONE, x -> x.walk(0, 1));
        call("walk(3, 0)", Due.NONE, x -> x.walk(3, 0));
        call("walk(3, 1)", Due.NONE, x -> x.walk(3, 1));
        call("walk(3, 2)", Due.NONE, x -> x.walk(3, 2));
        call("round(2)", 2, x -> x.round(2));
        call("round(3)", Due.NONE, x -> x.round(3));
        call("needs(2, 0)", 1, x -> x.needs(2, 0));
        call("needs(3, 0)", Due.NONE, x -> x.needs(3, 0));
        call("needs(3, 1)", Due.NONE, x -> x.needs(3, 1));
        call("lost(0)", 6, x -> x.lost(0));
        call("lost(2)", 0, x -> x.lost(2));
        call("begin(2)", 0, x -> x.begin(2));
        call("hall(0)", 1, x -> x.hall(0));
        call("hall(1)", 1, x -> x.hall(1));
        call("rope()", 1, FloorOfProofs::rope);
        call("idle()", 4, FloorOfProofs::idle);
        call("circle()", Due.NONE, FloorOfProofs::circle);
        call("deep()", 2, FloorOfProofs::deep);
        call("proofs(2, 0)", 1, x -> x.proofs(2, 0));
        call("proofs(2, 1)", 3, x -> x.proofs(2, 1));
        call("proofs(2, 2)", 3, x -> x.proofs(2, 2));
        call("proofs(3, 0)", 0, x -> x.proofs(3, 0));
        call("proofs(3, 1)", Due.NONE, x -> x.proofs(3, 1));
        call("proofs(3, 2)", 0, x -> x.proofs(3, 2));
        call("worn(2, 6)", 1, x -> x.worn(2, 6));
        call("worn(3, 0)", 0, x -> x.worn(3, 0));
        call("judge()", Due.NONE, FloorOfProofs::judge);
        call("year(3, 99, 0)", 2, x -> x.year(3, 99, 0));
        call("year(3, 99, 1)", 7, x -> x.year(3, 99, 1));
        call("count(5)", 1, x -> x.count(5));
        each("some", RefusalsTest::some);
        // A floor without a hall, with a circle, on which nothing is stood on.
        call("fault()", Due.NONE, FloorOfProofs::fault);
        call("hall(0)", 0, x -> x.hall(0));
        call("hall(1)", Due.NONE, x -> x.hall(1));
        call("rope()", 0, FloorOfProofs::rope);
        call("circle()", 1, FloorOfProofs::circle);
        call("deep()", Due.NONE, FloorOfProofs::deep);
        call("begin(0)", Due.NONE, x -> x.begin(0));
        call("begin(1)", 4, x -> x.begin(1));
        call("judge()", 0, FloorOfProofs::judge);
        call("year(0, 99, 0)", 0, x -> x.year(0, 99, 0));
        call("reach(0)", 0, x -> x.reach(0));
        each("a circle", () -> {
            FloorOfProofs x = Due.floor("t1,1,2;t2,2,1;");
            x.tell(0);
            return x;
        });
    }
}
