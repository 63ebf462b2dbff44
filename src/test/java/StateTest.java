import java.util.ArrayList;
import java.util.Arrays;
import java.util.List;
import java.util.function.ToIntFunction;

/** What an object answers is told by its weights alone: not by its past, by questions or by refused calls. */
public final class StateTest {
    private static final int[][] STATES = {
        {0, 0, 0, 0, 0},
        {2, -3, 1, 0, 6},
        {6, 6, -5, -5, -5},
        {1, 2, 3, 4, 6},
        {-6, -6, -6, -6, -6},
    };
    private static final int[] BAD_WEIGHT_NUMBERS = {Integer.MIN_VALUE, -1, 5, Integer.MAX_VALUE};
    private static final int[] BAD_VALUES = {Integer.MIN_VALUE, -7, 7, Integer.MAX_VALUE};
    private static final int[] BAD_SOWINGS = {Integer.MIN_VALUE, -1, 13, Integer.MAX_VALUE};
    private static final int[] BAD_CODES = {Integer.MIN_VALUE, -1, 16807, Integer.MAX_VALUE};
    private static final int[] BAD_SUMS = {Integer.MIN_VALUE, -1, 21, Integer.MAX_VALUE};
    private static final int CALLS_AN_OBJECT = 512;

    private record Call(String name, ToIntFunction<HilbertBasis> made, int due) {
    }

    public static void main(String[] args) {
        pastDoesNotMatter();
        for (int[] weights : STATES) {
            for (Call call : refusedChanges()) {
                changesNothing(weights, call);
            }
            for (Call call : refusedQuestions()) {
                changesNothing(weights, call);
            }
            questionsChangeNothing(weights);
        }
        refusedFirstCall();
        refusedCallsBetweenChanges();
        allOfItsCalls();
        Check.finish();
    }

    private static void pastDoesNotMatter() {
        int[][] history = {{6, 6, -5, -5, -5}, {1, 1, 1, 1, 1}, {0, 0, 0, 0, 0}, {3, 2, -1, -5, 0}};
        HilbertBasis old = new HilbertBasis();
        for (int[] weights : history) {
            for (int i = 0; i < 5; i++) {
                old.set(i, weights[i]);
            }
            Picture.same("set to " + Arrays.toString(weights), Picture.of(old), Picture.of(Check.weighing(weights)));
        }
        old = Check.weighing(6, 6, -5, -5, -5);
        old.sow(12, 7);
        HilbertBasis fresh = new HilbertBasis();
        fresh.sow(12, 7);
        Picture.same("sow(12, 7)", Picture.of(old), Picture.of(fresh));
    }

    /** One bad argument with a good one, and both bad, at every edge. */
    private static List<Call> refusedChanges() {
        List<Call> calls = new ArrayList<>();
        for (int i : BAD_WEIGHT_NUMBERS) {
            calls.add(setting(i, 3, -1));
            for (int value : BAD_VALUES) {
                calls.add(setting(i, value, -1));
            }
        }
        for (int value : BAD_VALUES) {
            for (int i = 0; i < 5; i++) {
                calls.add(setting(i, value, -2));
            }
        }
        for (int bad : BAD_SOWINGS) {
            calls.add(sowing(bad, 4, -1));
            calls.add(sowing(3, bad, -2));
            for (int other : BAD_SOWINGS) {
                calls.add(sowing(bad, other, -1));
            }
        }
        return calls;
    }

    private static Call setting(int i, int value, int due) {
        return new Call("set(" + i + ", " + value + ")", basis -> basis.set(i, value), due);
    }

    private static Call sowing(int seed, int bend, int due) {
        return new Call("sow(" + seed + ", " + bend + ")", basis -> basis.sow(seed, bend), due);
    }

    private static List<Call> refusedQuestions() {
        List<Call> calls = new ArrayList<>();
        for (int i : BAD_WEIGHT_NUMBERS) {
            calls.add(new Call("weight(" + i + ")", basis -> basis.weight(i), -100));
            calls.add(new Call("using(" + i + ")", basis -> basis.using(i), -1));
        }
        for (int code : BAD_CODES) {
            calls.add(new Call("isBalance(" + code + ")", basis -> basis.isBalance(code), -1));
            calls.add(new Call("isLeast(" + code + ")", basis -> basis.isLeast(code), -1));
            calls.add(new Call("code(" + code + ")", basis -> basis.code(code), -1));
            calls.add(new Call("fewest(" + code + ")", basis -> basis.fewest(code), -1));
            calls.add(new Call("ways(" + code + ")", basis -> basis.ways(code), -1));
            calls.add(new Call("inside(" + code + ")", basis -> basis.inside(code), -1));
        }
        for (int n : BAD_SUMS) {
            calls.add(new Call("balances(" + n + ")", basis -> basis.balances(n), -1));
        }
        return calls;
    }

    /** The same object is asked before and after, so an answer kept from before would not hide a change. */
    private static void changesNothing(int[] weights, Call call) {
        String name = Arrays.toString(weights) + ", " + call.name();
        HilbertBasis basis = Check.weighing(weights);
        List<String> before = Picture.of(basis);
        Check.due(name, call.made().applyAsInt(basis), call.due());
        Picture.same("after " + name, Picture.of(basis), before);
        HilbertBasis unasked = Check.weighing(weights);
        Check.due(name + ", not asked before", call.made().applyAsInt(unasked), call.due());
        Picture.same("after " + name + ", not asked before", Picture.of(unasked), before);
    }

    private static void questionsChangeNothing(int[] weights) {
        HilbertBasis basis = Check.weighing(weights);
        List<String> first = Picture.of(basis);
        Picture.same("asked again", Picture.of(basis), first);
        HilbertBasis other = Check.weighing(weights);
        for (int value = -7; value <= 21; value++) {
            other.inside(value);
            other.ways(16806 - value);
            other.fewest(16806 - value);
            other.isLeast(value);
            other.code(value);
            other.using(value);
            other.balances(value);
            other.isBalance(value);
            other.weight(value);
        }
        Picture.same("after other questions", Picture.of(other), first);
    }

    private static void refusedFirstCall() {
        List<String> due = Picture.of(new HilbertBasis());
        for (Call call : refusedChanges()) {
            HilbertBasis basis = new HilbertBasis();
            Check.due("first call " + call.name(), call.made().applyAsInt(basis), call.due());
            Picture.same("after the first call " + call.name(), Picture.of(basis), due);
        }
    }

    /** What set answers, the one before, is the last that was taken and not the last that was asked for. */
    private static void refusedCallsBetweenChanges() {
        for (int i = 0; i < 5; i++) {
            HilbertBasis basis = new HilbertBasis();
            basis.set(i, 4);
            Check.due("set(" + i + ", 7)", basis.set(i, 7), -2);
            Check.due("set(" + i + ", 5) after a refused set", basis.set(i, 5), 4);
            Check.due("sow(0, 13)", basis.sow(0, 13), -2);
            Check.due("sow(13, 0)", basis.sow(13, 0), -1);
            Check.due("set(" + i + ", 6) after refused sows", basis.set(i, 6), 5);
            Check.due("weight(" + i + ")", basis.weight(i), 6);
        }
    }

    /** An object is used for at most 512 calls: its changes and answers hold to the last one of them. */
    private static void allOfItsCalls() {
        int spare = CALLS_AN_OBJECT - Picture.CALLS - 1;
        HilbertBasis old = new HilbertBasis();
        int[] weights = new int[5];
        for (int call = 1; call <= spare; call++) {
            int i = call % 5;
            int value = call * 7 % 17 - 8;
            boolean taken = value >= -6 && value <= 6;
            Check.due("call " + call + ", set(" + i + ", " + value + ")", old.set(i, value), taken ? weights[i] : -2);
            weights[i] = taken ? value : weights[i];
        }
        Check.due("call " + (spare + 1) + ", sow(3, 4)", old.sow(3, 4), -1);
        HilbertBasis fresh = new HilbertBasis();
        fresh.sow(3, 4);
        Picture.same("the last calls of 512", Picture.of(old), Picture.of(fresh));
    }
}
