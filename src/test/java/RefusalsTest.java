import java.util.ArrayList;
import java.util.List;

/**
 * "nothing changes then", "The calls below change nothing. BAD_REPLICA first." and promise 12. A
 * call that may change nothing is made in several scenes; then all that can be asked, and what the
 * replicas go on to do, must be as if it had never been made. As an object is used for at most 512
 * calls, each part of that is looked at on an object of its own.
 */
public final class RefusalsTest {
    private static final int[] NO_REPLICAS = {-1, 3, 40, -40, Integer.MIN_VALUE, Integer.MAX_VALUE};
    private static final int[] FAR = {41, 120, -2, -40, Integer.MIN_VALUE, Integer.MAX_VALUE};
    private static final int CALLS = 512;

    private static int wrong = 0;

    interface Calls {
        void on(Counted x);
    }

    interface Call {
        int on(Counted x);
    }

    public static void main(String[] args) {
        Calls[] scenes = {RefusalsTest::nothing, RefusalsTest::apart, RefusalsTest::together,
            RefusalsTest::allDeleted, RefusalsTest::full, RefusalsTest::fullAndDeleted};
        String[] names = {"a new object", "three texts", "three texts with deletions, partly learned",
            "all deleted", "forty elements", "forty elements, all deleted"};
        for (int i = 0; i < scenes.length; i++) {
            Scene scene = new Scene(names[i], scenes[i], i >= 4);
            scene.refusedInserts();
            scene.refusedDeletes();
            scene.refusedLearning();
            scene.questions();
            scene.badReplicaFirst();
        }
        promise12Insert();
        promise12Learn();
        System.out.println(wrong == 0 ? "what is refused changes nothing" : wrong + " faults");
        if (wrong != 0) {
            System.exit(1);
        }
    }

    private static void nothing(Counted x) {
    }

    private static void apart(Counted x) {
        for (int i = 0; i < 9; i++) {
            x.insert(i % 3, i / 3, 'a' + i);
        }
    }

    private static void together(Counted x) {
        apart(x);
        x.learn(0, 1);
        x.delete(0, 1);
        x.delete(0, 4);
        x.learn(2, 0);
        x.delete(2, 0);
        x.insert(2, 3, 'x');
        x.insert(0, 2, 'y');
        x.delete(1, 1);
    }

    private static void allDeleted(Counted x) {
        apart(x);
        for (int i = 0; i < 9; i++) {
            x.delete(i % 3, 0);
        }
        x.learn(1, 2);
    }

    private static void full(Counted x) {
        for (int i = 0; i < 40; i++) {
            x.insert(i % 3, i / 6, 'a' + i % 26);
        }
        x.learn(1, 0);
        x.delete(1, 3);
    }

    private static void fullAndDeleted(Counted x) {
        for (int i = 0; i < 40; i++) {
            x.insert(i % 3, 0, 'a' + i % 26);
        }
        for (int i = 0; i < 40; i++) {
            x.delete(i % 3, 0);
        }
    }

    /** A state that calls lead to, with all that is observed of it. */
    private static final class Scene {
        final String name;
        final Calls calls;
        final boolean isFull;
        final List<Integer> before;

        Scene(String name, Calls calls, boolean isFull) {
            this.name = name;
            this.calls = calls;
            this.isFull = isFull;
            this.before = observe(x -> 0);
        }

        void refusedInserts() {
            for (int no : NO_REPLICAS) {
                refused("insert by " + no, x -> x.insert(no, 0, 'x'), RgaText.BAD_REPLICA);
            }
            for (int replica = 0; replica < 3; replica++) {
                int r = replica;
                int length = length(r);
                refused("insert at -1", x -> x.insert(r, -1, 'x'), RgaText.BAD_PLACE);
                refused("insert behind the end", x -> x.insert(r, length + 1, 'x'), RgaText.BAD_PLACE);
                for (int far : FAR) {
                    refused("insert at " + far, x -> x.insert(r, far, 'x'), RgaText.BAD_PLACE);
                }
                for (int place = 0; isFull && place <= length; place++) {
                    int p = place;
                    refused("insert at " + p, x -> x.insert(r, p, 'x'), RgaText.FULL);
                }
            }
        }

        void refusedDeletes() {
            for (int no : NO_REPLICAS) {
                refused("delete by " + no, x -> x.delete(no, 0), RgaText.BAD_REPLICA);
            }
            for (int replica = 0; replica < 3; replica++) {
                int r = replica;
                int length = length(r);
                refused("delete at -1", x -> x.delete(r, -1), RgaText.BAD_PLACE);
                refused("delete at the end", x -> x.delete(r, length), RgaText.BAD_PLACE);
                for (int far : FAR) {
                    refused("delete at " + far, x -> x.delete(r, far), RgaText.BAD_PLACE);
                }
            }
        }

        void refusedLearning() {
            for (int replica = 0; replica < 3; replica++) {
                int r = replica;
                refused("learn from itself", x -> x.learn(r, r), RgaText.SAME);
                for (int no : NO_REPLICAS) {
                    refused("learn by " + no, x -> x.learn(no, r), RgaText.BAD_REPLICA);
                    refused("learn from " + no, x -> x.learn(r, no), RgaText.BAD_REPLICA);
                }
            }
            for (int no : NO_REPLICAS) {
                refused("learn by and from " + no, x -> x.learn(no, no), RgaText.BAD_REPLICA);
            }
        }

        void questions() {
            for (int replica : new int[] {0, 1, 2, 3, -1}) {
                for (int number : new int[] {0, 1, 2, 3, 39, 40, -1, Integer.MIN_VALUE, Integer.MAX_VALUE}) {
                    unchanged("charAt", x -> x.charAt(replica, number));
                    unchanged("elementAt", x -> x.elementAt(replica, number));
                    unchanged("placeOf", x -> x.placeOf(replica, number));
                    unchanged("rank", x -> x.rank(replica, number));
                    unchanged("sameText", x -> x.sameText(replica, number));
                }
                unchanged("length", x -> x.length(replica));
                unchanged("known", x -> x.known(replica));
            }
        }

        /** Each of these would be NONE too: there is no such place and no such element. */
        void badReplicaFirst() {
            for (int no : NO_REPLICAS) {
                for (int number : new int[] {-1, 40, Integer.MIN_VALUE, Integer.MAX_VALUE}) {
                    answers("charAt of " + no, x -> x.charAt(no, number), RgaText.BAD_REPLICA);
                    answers("elementAt of " + no, x -> x.elementAt(no, number), RgaText.BAD_REPLICA);
                    answers("placeOf of " + no, x -> x.placeOf(no, number), RgaText.BAD_REPLICA);
                    answers("rank of " + no, x -> x.rank(no, number), RgaText.BAD_REPLICA);
                    answers("delete of " + no, x -> x.delete(no, number), RgaText.BAD_REPLICA);
                    answers("insert of " + no, x -> x.insert(no, number, 'x'), RgaText.BAD_REPLICA);
                }
                answers("length of " + no, x -> x.length(no), RgaText.BAD_REPLICA);
                answers("known of " + no, x -> x.known(no), RgaText.BAD_REPLICA);
            }
        }

        int length(int replica) {
            return at().length(replica);
        }

        Counted at() {
            Counted x = new Counted();
            calls.on(x);
            return x;
        }

        void refused(String what, Call call, int want) {
            answers(what, call, want);
            unchanged(what, call);
        }

        void answers(String what, Call call, int want) {
            due(name + ": " + what, call.on(at()), want);
        }

        void unchanged(String what, Call call) {
            if (!observe(call).equals(before)) {
                tell(name + ": " + what + " changed something");
            }
        }

        List<Integer> observe(Call call) {
            List<Integer> seen = new ArrayList<>();
            for (int one = 0; one < 3; one++) {
                askAbout(one, after(call), seen);
                for (int other = 0; other < 3; other++) {
                    seen.add(after(call).sameText(one, other));
                    if (one != other) {
                        learnFrom(one, other, after(call), seen);
                        goOn(one, other, after(call), seen);
                    }
                }
            }
            return seen;
        }

        Counted after(Call call) {
            Counted x = at();
            call.on(x);
            return x;
        }
    }

    private static void askAbout(int replica, Counted x, List<Integer> seen) {
        seen.add(x.length(replica));
        seen.add(x.known(replica));
        for (int number = -1; number <= 40; number++) {
            seen.add(x.charAt(replica, number));
            seen.add(x.elementAt(replica, number));
            seen.add(x.placeOf(replica, number));
            seen.add(x.rank(replica, number));
        }
    }

    private static void learnFrom(int to, int from, Counted x, List<Integer> seen) {
        seen.add(x.learn(to, from));
        seen.add(x.known(to));
        for (int place = 0; place <= 40; place++) {
            seen.add(x.elementAt(to, place));
        }
    }

    /** Where the one's new element stands among the other's shows a difference in their clocks. */
    private static void goOn(int one, int other, Counted x, List<Integer> seen) {
        for (int i = 0; i < 12; i++) {
            seen.add(x.insert(other, 0, '.'));
        }
        seen.add(x.insert(one, 0, '!'));
        seen.add(x.learn(one, other));
        for (int element = 0; element < 40; element++) {
            seen.add(x.rank(one, element));
        }
    }

    private static void promise12Insert() {
        Counted x = new Counted();
        due("BAD_REPLICA, BAD_PLACE below", x.insert(-1, -1, 'x'), RgaText.BAD_REPLICA);
        due("BAD_REPLICA, BAD_PLACE beyond", x.insert(3, 1, 'x'), RgaText.BAD_REPLICA);
        for (int i = 0; i < 39; i++) {
            x.insert(0, i, 'a');
        }
        due("39 elements, BAD_PLACE", x.insert(0, 40, 'x'), RgaText.BAD_PLACE);
        due("the fortieth", x.insert(0, 39, 'a'), 39);
        due("BAD_REPLICA, FULL", x.insert(3, 0, 'x'), RgaText.BAD_REPLICA);
        due("BAD_REPLICA, FULL", x.insert(-1, 0, 'x'), RgaText.BAD_REPLICA);
        due("BAD_REPLICA, BAD_PLACE, FULL", x.insert(3, 41, 'x'), RgaText.BAD_REPLICA);
        due("BAD_REPLICA, BAD_PLACE, FULL", x.insert(-1, -1, 'x'), RgaText.BAD_REPLICA);
        due("BAD_PLACE beyond, FULL", x.insert(0, 41, 'x'), RgaText.BAD_PLACE);
        due("BAD_PLACE below, FULL", x.insert(0, -1, 'x'), RgaText.BAD_PLACE);
        due("BAD_PLACE beyond an empty text, FULL", x.insert(2, 1, 'x'), RgaText.BAD_PLACE);
        due("BAD_PLACE below an empty text, FULL", x.insert(2, -1, 'x'), RgaText.BAD_PLACE);
        due("FULL at 0", x.insert(0, 0, 'x'), RgaText.FULL);
        due("FULL at the end", x.insert(0, 40, 'x'), RgaText.FULL);
        due("FULL for an empty text", x.insert(2, 0, 'x'), RgaText.FULL);
    }

    private static void promise12Learn() {
        Counted x = new Counted();
        for (int no : NO_REPLICAS) {
            due("BAD_REPLICA before SAME", x.learn(no, no), RgaText.BAD_REPLICA);
        }
        due("two that are no replicas", x.learn(-1, 3), RgaText.BAD_REPLICA);
        due("SAME", x.learn(0, 0), RgaText.SAME);
        due("SAME", x.learn(2, 2), RgaText.SAME);
    }

    private static void due(String what, int got, int want) {
        if (got != want) {
            tell(what + ": answered " + got + ", due is " + want);
        }
    }

    private static void tell(String fault) {
        wrong++;
        System.out.println(fault);
    }

    /** The object, with its calls counted: what it answers after the 512th is free, so no test may ask it. */
    private static final class Counted {
        private final RgaText text = new RgaText();
        private int calls = 0;

        private RgaText next() {
            calls++;
            if (calls > CALLS) {
                throw new IllegalStateException("the test makes more than 512 calls");
            }
            return text;
        }

        int insert(int replica, int place, int c) {
            return next().insert(replica, place, c);
        }

        int delete(int replica, int place) {
            return next().delete(replica, place);
        }

        int learn(int to, int from) {
            return next().learn(to, from);
        }

        int length(int replica) {
            return next().length(replica);
        }

        int charAt(int replica, int place) {
            return next().charAt(replica, place);
        }

        int elementAt(int replica, int place) {
            return next().elementAt(replica, place);
        }

        int placeOf(int replica, int element) {
            return next().placeOf(replica, element);
        }

        int known(int replica) {
            return next().known(replica);
        }

        int rank(int replica, int element) {
            return next().rank(replica, element);
        }

        int sameText(int a, int b) {
            return next().sameText(a, b) ? 1 : 0;
        }
    }
}
