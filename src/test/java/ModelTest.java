import java.util.ArrayList;
import java.util.List;
import java.util.TreeSet;

/**
 * Runs of up to 512 calls on an object and on a slow model, which builds each replica's tree anew
 * from the document's words for every answer. The runs are drawn from a fixed series of numbers, so
 * they are the same every time.
 */
public final class ModelTest {
    private static final int RUNS = 2000;
    private static final int CALLS = 512;
    private static final int[] WRONG_NUMBERS = {-1, 3, -2, 4, 40, Integer.MIN_VALUE, Integer.MAX_VALUE};

    private static int wrong = 0;
    private static long series;

    public static void main(String[] args) {
        for (int run = 0; run < RUNS && wrong < 20; run++) {
            series = 7919L * run + 1;
            runOnce(run);
        }
        System.out.println(wrong == 0 ? "all runs are as the model has them" : wrong + " runs went wrong");
        if (wrong != 0) {
            System.exit(1);
        }
    }

    private static void runOnce(int run) {
        RgaText text = new RgaText();
        Model model = new Model();
        // From runs that fill the object at once to runs that stay nearly empty.
        int insertWeight = 2 + below(40);
        int deleteWeight = below(20);
        int learnWeight = 1 + below(30);
        int askWeight = 10 + below(60);
        int sum = insertWeight + deleteWeight + learnWeight + askWeight;
        for (int call = 0; call < CALLS; call++) {
            int draw = below(sum);
            int kind;
            if (draw < insertWeight) {
                kind = 0;
            } else if (draw < insertWeight + deleteWeight) {
                kind = 1;
            } else if (draw < insertWeight + deleteWeight + learnWeight) {
                kind = 2;
            } else {
                kind = 3 + below(7);
            }
            if (!callOnce(run, call, kind, text, model)) {
                wrong++;
                return;
            }
        }
    }

    private static boolean callOnce(int run, int call, int kind, RgaText text, Model model) {
        int replica = drawReplica();
        int other = drawReplica();
        int length = model.isReplica(replica) ? model.text(replica).size() : 3;
        int place = below(20) == 0 ? drawWrong() : below(length + 3) - 1;
        int element = below(20) == 0 ? drawWrong() : below(model.elements.size() + 2) - 1;
        int c = below(4) == 0 ? below(100000) - 50000 : 97 + below(3);
        switch (kind) {
            case 0: return due(run, call, "insert", replica, place, text.insert(replica, place, c), model.insert(replica, place, c));
            case 1: return due(run, call, "delete", replica, place, text.delete(replica, place), model.delete(replica, place));
            case 2: return due(run, call, "learn", replica, other, text.learn(replica, other), model.learn(replica, other));
            case 3: return due(run, call, "length", replica, 0, text.length(replica), model.length(replica));
            case 4: return due(run, call, "charAt", replica, place, text.charAt(replica, place), model.charAt(replica, place));
            case 5: return due(run, call, "elementAt", replica, place, text.elementAt(replica, place), model.elementAt(replica, place));
            case 6: return due(run, call, "placeOf", replica, element, text.placeOf(replica, element), model.placeOf(replica, element));
            case 7: return due(run, call, "known", replica, 0, text.known(replica), model.known(replica));
            case 8: return due(run, call, "rank", replica, element, text.rank(replica, element), model.rank(replica, element));
            default: return due(run, call, "sameText", replica, other, text.sameText(replica, other) ? 1 : 0, model.sameText(replica, other) ? 1 : 0);
        }
    }

    private static boolean due(int run, int call, String name, int first, int second, int got, int want) {
        if (got != want) {
            System.out.println("run " + run + ", call " + call + ": " + name + "(" + first + ", " + second + ", ..) answered "
                + got + ", due is " + want);
        }
        return got == want;
    }

    private static int drawReplica() {
        return below(25) == 0 ? drawWrong() : below(3);
    }

    private static int drawWrong() {
        return WRONG_NUMBERS[below(WRONG_NUMBERS.length)];
    }

    private static int below(int bound) {
        series = series * 6364136223846793005L + 1442695040888963407L;
        return (int) ((series >>> 33) % bound);
    }

    private static final class Element {
        final int number;
        final int character;
        final int stamp;
        final int origin;
        final int parent;

        Element(int number, int character, int stamp, int origin, int parent) {
            this.number = number;
            this.character = character;
            this.stamp = stamp;
            this.origin = origin;
            this.parent = parent;
        }
    }

    private static final class Model {
        static final int ROOT = -1;
        final List<Element> elements = new ArrayList<>();
        final List<TreeSet<Integer>> known = new ArrayList<>();
        final List<TreeSet<Integer>> deleted = new ArrayList<>();
        final int[] clocks = new int[3];

        Model() {
            for (int replica = 0; replica < 3; replica++) {
                known.add(new TreeSet<>());
                deleted.add(new TreeSet<>());
            }
        }

        boolean isReplica(int replica) {
            return 0 <= replica && replica <= 2;
        }

        List<Integer> documentOrder(int replica) {
            List<Integer> order = new ArrayList<>();
            walk(replica, ROOT, order);
            return order;
        }

        void walk(int replica, int parent, List<Integer> order) {
            List<Element> children = new ArrayList<>();
            for (int number : known.get(replica)) {
                if (elements.get(number).parent == parent) {
                    children.add(elements.get(number));
                }
            }
            children.sort((a, b) -> a.stamp != b.stamp ? b.stamp - a.stamp : b.origin - a.origin);
            for (Element child : children) {
                order.add(child.number);
                walk(replica, child.number, order);
            }
        }

        List<Integer> text(int replica) {
            List<Integer> text = documentOrder(replica);
            text.removeAll(deleted.get(replica));
            return text;
        }

        List<Integer> characters(int replica) {
            List<Integer> characters = new ArrayList<>();
            for (int number : text(replica)) {
                characters.add(elements.get(number).character);
            }
            return characters;
        }

        int insert(int replica, int place, int c) {
            if (!isReplica(replica)) {
                return -1;
            }
            List<Integer> text = text(replica);
            if (place < 0 || place > text.size()) {
                return -2;
            }
            if (elements.size() == 40) {
                return -3;
            }
            int parent = place == 0 ? ROOT : text.get(place - 1);
            clocks[replica]++;
            int number = elements.size();
            elements.add(new Element(number, Math.floorMod(c, 256), clocks[replica], replica, parent));
            known.get(replica).add(number);
            return number;
        }

        int delete(int replica, int place) {
            int element = elementAt(replica, place);
            if (element == -5) {
                return -2;
            }
            if (element >= 0) {
                deleted.get(replica).add(element);
            }
            return element;
        }

        int learn(int to, int from) {
            if (!isReplica(to) || !isReplica(from)) {
                return -1;
            }
            if (to == from) {
                return -4;
            }
            int learned = 0;
            for (int number : known.get(from)) {
                if (known.get(to).add(number)) {
                    learned++;
                    clocks[to] = Math.max(clocks[to], elements.get(number).stamp);
                }
            }
            for (int number : deleted.get(from)) {
                if (deleted.get(to).add(number)) {
                    learned++;
                }
            }
            return learned;
        }

        int length(int replica) {
            return isReplica(replica) ? text(replica).size() : -1;
        }

        int elementAt(int replica, int place) {
            if (!isReplica(replica)) {
                return -1;
            }
            List<Integer> text = text(replica);
            return place >= 0 && place < text.size() ? text.get(place) : -5;
        }

        int charAt(int replica, int place) {
            int element = elementAt(replica, place);
            return element < 0 ? element : elements.get(element).character;
        }

        int placeOf(int replica, int element) {
            if (!isReplica(replica)) {
                return -1;
            }
            int place = text(replica).indexOf(element);
            return place < 0 ? -5 : place;
        }

        int known(int replica) {
            return isReplica(replica) ? known.get(replica).size() : -1;
        }

        int rank(int replica, int element) {
            if (!isReplica(replica)) {
                return -1;
            }
            int rank = documentOrder(replica).indexOf(element);
            return rank < 0 ? -5 : rank;
        }

        boolean sameText(int a, int b) {
            return isReplica(a) && isReplica(b) && characters(a).equals(characters(b));
        }
    }
}
