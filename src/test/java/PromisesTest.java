/** Each promise of the document: ordinary inputs, the edges that it names, and wrong inputs. */
public final class PromisesTest {
    private static final int[] NO_REPLICAS = {-1, 3, 40, -40, Integer.MIN_VALUE, Integer.MAX_VALUE};

    private static int promise = 0;
    private static int wrong = 0;

    public static void main(String[] args) {
        promise1NewObject();
        promise2Insert();
        promise2TreeOrder();
        promise2Full();
        promise3Delete();
        promise4Learn();
        promise4Clock();
        promise5Length();
        promise6CharAt();
        promise7ElementAt();
        promise8PlaceOf();
        promise9Known();
        promise10Rank();
        promise11SameText();
        promise12Order();
        questionsChangeNothing();
        System.out.println(wrong == 0 ? "all promises hold" : wrong + " answers are not as due");
        if (wrong != 0) {
            System.exit(1);
        }
    }

    private static void promise1NewObject() {
        promise = 1;
        RgaText x = new RgaText();
        for (int replica = 0; replica < 3; replica++) {
            due("length of a new text", x.length(replica), 0);
            due("known of a new object", x.known(replica), 0);
            due("charAt of a new object", x.charAt(replica, 0), RgaText.NONE);
            due("elementAt of a new object", x.elementAt(replica, 0), RgaText.NONE);
            due("placeOf of a new object", x.placeOf(replica, 0), RgaText.NONE);
            due("rank of a new object", x.rank(replica, 0), RgaText.NONE);
            due("delete of a new object", x.delete(replica, 0), RgaText.BAD_PLACE);
            due("learn of a new object", x.learn(replica, (replica + 1) % 3), 0);
            due("sameText of a new object", x.sameText(replica, (replica + 1) % 3), true);
        }
        // All clocks are 0: the three first stamps are equal, so the origins decide.
        int zero = x.insert(0, 0, 'a');
        int two = x.insert(2, 0, 'c');
        int one = x.insert(1, 0, 'b');
        due("the first element's number", zero, 0);
        x.learn(0, 1);
        x.learn(0, 2);
        text("equal first stamps", x, 0, "cba");
        due("rank of 2's element", x.rank(0, two), 0);
        due("rank of 1's element", x.rank(0, one), 1);
        due("objects share nothing", new RgaText().known(0), 0);
    }

    private static void promise2Insert() {
        promise = 2;
        RgaText x = new RgaText();
        due("insert at the beginning", x.insert(1, 0, 'b'), 0);
        due("insert at the end", x.insert(1, 1, 'd'), 1);
        due("insert in the middle", x.insert(1, 1, 'c'), 2);
        due("insert before all", x.insert(1, 0, 'a'), 3);
        text("inserted text", x, 1, "abcd");
        text("the others know nothing", x, 0, "");
        due("place -1", x.insert(1, -1, 'x'), RgaText.BAD_PLACE);
        due("place length + 1", x.insert(1, 5, 'x'), RgaText.BAD_PLACE);
        due("least place", x.insert(1, Integer.MIN_VALUE, 'x'), RgaText.BAD_PLACE);
        due("greatest place", x.insert(1, Integer.MAX_VALUE, 'x'), RgaText.BAD_PLACE);
        due("a place in another's text", x.insert(0, 1, 'x'), RgaText.BAD_PLACE);
        for (int replica : NO_REPLICAS) {
            due("insert of no replica", x.insert(replica, 0, 'x'), RgaText.BAD_REPLICA);
        }
        text("refused inserts change nothing", x, 1, "abcd");
        due("numbers run over all replicas", x.insert(2, 0, 'z'), 4);
        characterIsMasked();
        refusedInsertKeepsClock();
        placeCountsTheTextAlone();
    }

    private static void characterIsMasked() {
        RgaText x = new RgaText();
        int[] given = {0, 255, 256, 353, -1, -256, Integer.MIN_VALUE, Integer.MAX_VALUE};
        int[] kept = {0, 255, 0, 97, 255, 0, 0, 255};
        for (int i = 0; i < given.length; i++) {
            x.insert(0, i, given[i]);
            due("character " + given[i], x.charAt(0, i), kept[i]);
        }
    }

    private static void refusedInsertKeepsClock() {
        RgaText x = new RgaText();
        x.insert(0, 7, 'x');
        x.insert(0, -1, 'x');
        x.insert(0, 0, 'a');
        x.insert(1, 0, 'b');
        x.learn(0, 1);
        // Both stamps are 1; a clock that a refused insert moved would put 'a' first.
        text("a refused insert keeps the clock", x, 0, "ba");
    }

    private static void placeCountsTheTextAlone() {
        RgaText x = new RgaText();
        write(x, 0, "abcd");
        x.delete(0, 1);
        x.delete(0, 1);
        text("two deleted", x, 0, "ad");
        due("beyond the text, not beyond the elements", x.insert(0, 3, 'x'), RgaText.BAD_PLACE);
        int element = x.insert(0, 1, 'n');
        text("inserted behind the text's element", x, 0, "and");
        // Behind 'a', not behind the deleted 'c': it stands before both deleted ones.
        due("rank among deleted ones", x.rank(0, element), 1);
        due("rank of a deleted one", x.rank(0, 1), 2);
        x.delete(0, 0);
        due("before the first of the text", x.rank(0, x.insert(0, 0, 'f')), 0);
    }

    private static void promise2TreeOrder() {
        promise = 2;
        // Stamps first: 0 makes two elements, the later of which is greater than 2's only one.
        RgaText x = new RgaText();
        x.insert(0, 0, 'a');
        x.insert(0, 0, 'b');
        x.insert(2, 0, 'z');
        meet(x);
        texts("greatest stamp first, then greatest origin", x, "bza");

        // Everything below a child comes before the next child.
        x = new RgaText();
        write(x, 0, "abc");
        write(x, 1, "def");
        write(x, 2, "ghi");
        meet(x);
        texts("what is written in one run stays together", x, "ghidefabc");

        // Children of an element in the middle, made at the same time.
        x = new RgaText();
        write(x, 0, "ad");
        meet(x);
        x.insert(0, 1, 'p');
        x.insert(0, 2, 'q');
        x.insert(1, 1, 'r');
        x.insert(1, 1, 's');
        x.insert(2, 1, 't');
        meet(x);
        // Stamps: p 3 with q below it, r 3, s 4, t 3, and d 2.
        texts("children of one parent", x, "astrpqd");

        // A deleted parent keeps its place for its children.
        x = new RgaText();
        write(x, 0, "abc");
        meet(x);
        x.delete(1, 1);
        x.insert(0, 2, 'x');
        x.insert(2, 2, 'y');
        x.insert(1, 1, 'n');
        meet(x);
        texts("children of a deleted parent", x, "anyxc");

        // A small stamp under a parent stays there, however great the stamps elsewhere are.
        x = new RgaText();
        write(x, 0, "ab");
        meet(x);
        x.insert(1, 0, 'k');
        x.insert(1, 0, 'l');
        x.insert(1, 0, 'm');
        x.insert(2, 1, 'n');
        meet(x);
        texts("a small stamp deep down", x, "mlkanb");

        // A sequence of stamps past one digit.
        x = new RgaText();
        for (int i = 0; i < 11; i++) {
            x.insert(0, 0, 'a' + i);
        }
        for (int i = 0; i < 9; i++) {
            x.insert(1, 0, 'A' + i);
        }
        meet(x);
        texts("stamps are numbers", x, "kjIiHhGgFfEeDdCcBbAa");
    }

    private static void promise2Full() {
        promise = 2;
        RgaText x = new RgaText();
        for (int i = 0; i < 40; i++) {
            due("insert " + i + " of forty", x.insert(i % 3, 0, i), i);
        }
        due("the 41st", x.insert(0, 0, 'x'), RgaText.FULL);
        due("the 41st at the end", x.insert(1, 13, 'x'), RgaText.FULL);
        due("FULL changes no length", x.length(0), 14);
        due("FULL changes nothing known", x.known(1), 13);
        due("delete from a full one", x.delete(0, 0), 39);
        due("deleted ones are counted in", x.insert(0, 0, 'x'), RgaText.FULL);
        due("learn in a full one", x.learn(2, 0), 15);
        due("learn in a full one", x.learn(2, 1), 13);
        due("all forty known", x.known(2), 40);
        due("the last rank", x.rank(2, 0), 39);
        due("an element too many", x.rank(2, 40), RgaText.NONE);
        due("the last place", x.elementAt(2, 38), 0);
        due("beyond the last place", x.elementAt(2, 39), RgaText.NONE);
        for (int i = 0; i < 39; i++) {
            x.delete(2, 0);
        }
        due("all deleted", x.length(2), 0);
        due("still full", x.insert(2, 0, 'x'), RgaText.FULL);
    }

    private static void promise3Delete() {
        promise = 3;
        RgaText x = new RgaText();
        write(x, 0, "abcd");
        x.learn(1, 0);
        due("delete in the middle", x.delete(0, 1), 1);
        text("after the first delete", x, 0, "acd");
        due("the same place is the next one now", x.delete(0, 1), 2);
        due("delete the last", x.delete(0, 1), 3);
        due("there is none any more", x.delete(0, 1), RgaText.BAD_PLACE);
        due("place -1", x.delete(0, -1), RgaText.BAD_PLACE);
        due("least place", x.delete(0, Integer.MIN_VALUE), RgaText.BAD_PLACE);
        due("greatest place", x.delete(0, Integer.MAX_VALUE), RgaText.BAD_PLACE);
        due("the place of NONE", x.delete(0, RgaText.NONE), RgaText.BAD_PLACE);
        for (int replica : NO_REPLICAS) {
            due("delete of no replica", x.delete(replica, 0), RgaText.BAD_REPLICA);
        }
        text("the rest", x, 0, "a");
        text("the other doesn't know of it", x, 1, "abcd");
        due("deleted ones stay known", x.known(0), 4);
        due("delete the first", x.delete(0, 0), 0);
        text("nothing left", x, 0, "");
        due("an empty text has none", x.delete(0, 0), RgaText.BAD_PLACE);
        deleteKeepsClock();
    }

    private static void deleteKeepsClock() {
        RgaText x = new RgaText();
        x.insert(0, 0, 'x');
        x.delete(0, 0);
        x.insert(0, 0, 'a');
        x.insert(1, 0, 'y');
        x.insert(1, 0, 'b');
        x.learn(0, 1);
        // The stamps of 'a' and 'b' are both 2, so the greater origin goes first.
        text("delete keeps the clock", x, 0, "bay");
    }

    private static void promise4Learn() {
        promise = 4;
        RgaText x = new RgaText();
        write(x, 0, "abc");
        x.delete(0, 0);
        due("elements and deletions together", x.learn(1, 0), 4);
        text("what was learned", x, 1, "bc");
        due("nothing new", x.learn(1, 0), 0);
        text("one way alone", x, 2, "");
        x.insert(1, 2, 'd');
        due("the way back", x.learn(0, 1), 1);
        due("by way of another", x.learn(2, 1), 5);
        x.insert(2, 3, 'e');
        text("the one learned from learns nothing", x, 1, "bcd");
        due("its known", x.known(1), 4);
        due("a deletion alone", x.delete(0, 0) == 1 ? x.learn(1, 0) : 99, 1);
        due("both delete the same", x.delete(2, 0), 1);
        due("one deletion, known already; one element", x.learn(1, 2), 1);
        due("one deletion, known already", x.learn(2, 1), 0);
        due("what was learned at that time", x.known(0), 4);
        due("the same", x.learn(0, 0), RgaText.SAME);
        due("the same", x.learn(1, 1), RgaText.SAME);
        due("the same", x.learn(2, 2), RgaText.SAME);
        for (int replica : NO_REPLICAS) {
            due("to no replica", x.learn(replica, 1), RgaText.BAD_REPLICA);
            due("from no replica", x.learn(1, replica), RgaText.BAD_REPLICA);
        }
        text("refused learning changes nothing", x, 0, "cd");
        text("refused learning changes nothing", x, 1, "cde");
        text("refused learning changes nothing", x, 2, "cde");
    }

    private static void promise4Clock() {
        promise = 4;
        // 1 learns of stamp 3, so its next insertion has stamp 4 and goes before them all.
        RgaText x = new RgaText();
        x.insert(2, 0, 'c');
        x.insert(2, 0, 'b');
        x.insert(2, 0, 'a');
        x.learn(1, 2);
        x.insert(1, 0, 'n');
        text("a learner's clock", x, 1, "nabc");
        x.insert(2, 0, 'o');
        x.learn(2, 1);
        // Both 'n' and 'o' have stamp 4: at least the stamp learned, and not more.
        text("the clock is no more than the stamp learned", x, 2, "onabc");

        // Learning of lesser stamps leaves the clock as it is.
        x = new RgaText();
        for (int i = 0; i < 5; i++) {
            x.insert(0, 0, 'a');
        }
        x.insert(1, 0, 'z');
        x.learn(0, 1);
        x.insert(0, 0, 'b');
        text("the clock doesn't go back", x, 0, "baaaaza");

        // An element whose deletion comes with it counts for the clock too.
        x = new RgaText();
        x.insert(0, 0, 'x');
        x.insert(0, 0, 'y');
        x.delete(0, 0);
        x.delete(0, 0);
        x.learn(1, 0);
        x.insert(1, 0, 'a');
        x.insert(2, 0, 'b');
        x.insert(2, 0, 'c');
        x.learn(2, 1);
        // 'a' has stamp 3, greater than the 2 of 'c'.
        text("deleted elements count for the clock", x, 2, "acb");
    }

    private static void promise5Length() {
        promise = 5;
        RgaText x = new RgaText();
        write(x, 0, "abc");
        due("length", x.length(0), 3);
        x.delete(0, 1);
        due("deleted ones don't count", x.length(0), 2);
        due("of another", x.length(2), 0);
        x.learn(2, 0);
        due("learned", x.length(2), 2);
        for (int replica : NO_REPLICAS) {
            due("length of no replica", x.length(replica), RgaText.BAD_REPLICA);
        }
    }

    private static void promise6CharAt() {
        promise = 6;
        RgaText x = new RgaText();
        write(x, 2, "abc");
        x.delete(2, 0);
        due("first", x.charAt(2, 0), 'b');
        due("last", x.charAt(2, 1), 'c');
        due("beyond", x.charAt(2, 2), RgaText.NONE);
        due("place -1", x.charAt(2, -1), RgaText.NONE);
        due("least place", x.charAt(2, Integer.MIN_VALUE), RgaText.NONE);
        due("greatest place", x.charAt(2, Integer.MAX_VALUE), RgaText.NONE);
        due("of another", x.charAt(1, 0), RgaText.NONE);
        for (int replica : NO_REPLICAS) {
            due("charAt of no replica", x.charAt(replica, 0), RgaText.BAD_REPLICA);
            due("BAD_REPLICA first", x.charAt(replica, -1), RgaText.BAD_REPLICA);
        }
    }

    private static void promise7ElementAt() {
        promise = 7;
        RgaText x = new RgaText();
        write(x, 1, "abc");
        x.insert(1, 0, 'd');
        x.delete(1, 2);
        due("first", x.elementAt(1, 0), 3);
        due("second", x.elementAt(1, 1), 0);
        due("last", x.elementAt(1, 2), 2);
        due("beyond", x.elementAt(1, 3), RgaText.NONE);
        due("place -1", x.elementAt(1, -1), RgaText.NONE);
        due("least place", x.elementAt(1, Integer.MIN_VALUE), RgaText.NONE);
        due("greatest place", x.elementAt(1, Integer.MAX_VALUE), RgaText.NONE);
        due("of another", x.elementAt(0, 0), RgaText.NONE);
        for (int replica : NO_REPLICAS) {
            due("elementAt of no replica", x.elementAt(replica, 0), RgaText.BAD_REPLICA);
            due("BAD_REPLICA first", x.elementAt(replica, -1), RgaText.BAD_REPLICA);
        }
    }

    private static void promise8PlaceOf() {
        promise = 8;
        RgaText x = new RgaText();
        write(x, 0, "abc");
        x.insert(0, 0, 'd');
        x.learn(1, 0);
        x.delete(0, 2);
        due("the latest stands first", x.placeOf(0, 3), 0);
        due("the first stands second", x.placeOf(0, 0), 1);
        due("deleted", x.placeOf(0, 1), RgaText.NONE);
        due("deleted ones before it don't count", x.placeOf(0, 2), 2);
        due("where it isn't deleted", x.placeOf(1, 1), 2);
        due("where it isn't deleted", x.placeOf(1, 2), 3);
        due("where it isn't known", x.placeOf(2, 0), RgaText.NONE);
        noElements("placeOf", x);
        for (int replica : NO_REPLICAS) {
            due("placeOf of no replica", x.placeOf(replica, 0), RgaText.BAD_REPLICA);
            due("BAD_REPLICA first", x.placeOf(replica, -1), RgaText.BAD_REPLICA);
        }
    }

    private static void promise9Known() {
        promise = 9;
        RgaText x = new RgaText();
        write(x, 0, "abc");
        write(x, 1, "de");
        x.delete(0, 0);
        due("deleted ones counted in", x.known(0), 3);
        due("of another", x.known(1), 2);
        due("of one that knows nothing", x.known(2), 0);
        x.learn(1, 0);
        due("learned, a deletion is no element", x.known(1), 5);
        due("as before", x.known(0), 3);
        for (int replica : NO_REPLICAS) {
            due("known of no replica", x.known(replica), RgaText.BAD_REPLICA);
        }
    }

    private static void promise10Rank() {
        promise = 10;
        RgaText x = new RgaText();
        write(x, 0, "abc");
        x.insert(1, 0, 'd');
        x.delete(0, 0);
        due("a deleted one", x.rank(0, 0), 0);
        due("behind a deleted one", x.rank(0, 1), 1);
        due("the last", x.rank(0, 2), 2);
        due("not known", x.rank(0, 3), RgaText.NONE);
        due("known to the other", x.rank(1, 3), 0);
        due("not known to the other", x.rank(1, 0), RgaText.NONE);
        x.learn(0, 1);
        due("learned", x.rank(0, 3), 0);
        due("moved on", x.rank(0, 0), 1);
        due("moved on", x.rank(0, 2), 3);
        due("the other's as before", x.rank(1, 3), 0);
        noElements("rank", x);
        for (int replica : NO_REPLICAS) {
            due("rank of no replica", x.rank(replica, 0), RgaText.BAD_REPLICA);
            due("BAD_REPLICA first", x.rank(replica, -1), RgaText.BAD_REPLICA);
        }
    }

    private static void noElements(String call, RgaText x) {
        int[] numbers = {-1, 4, 39, 40, 41, 80, 120, -40, RgaText.NONE, Integer.MIN_VALUE, Integer.MAX_VALUE};
        for (int number : numbers) {
            for (int replica = 0; replica < 3; replica++) {
                int answer = call.equals("rank") ? x.rank(replica, number) : x.placeOf(replica, number);
                due(call + " of no element " + number, answer, RgaText.NONE);
            }
        }
    }

    private static void promise11SameText() {
        promise = 11;
        RgaText x = new RgaText();
        due("two empty ones", x.sameText(0, 1), true);
        write(x, 0, "ab");
        due("one empty", x.sameText(0, 1), false);
        due("one empty", x.sameText(1, 0), false);
        due("with itself", x.sameText(0, 0), true);
        write(x, 1, "a");
        due("a beginning of it", x.sameText(0, 1), false);
        due("a beginning of it", x.sameText(1, 0), false);
        write(x, 1, "b");
        text("written before", x, 1, "ba");
        due("the same characters, another order", x.sameText(0, 1), false);
        x.delete(1, 1);
        x.insert(1, 0, 'a');
        due("other elements, the same characters", x.sameText(0, 1), true);
        due("other elements, the same characters", x.sameText(1, 0), true);
        x.insert(2, 0, 'a' + 256);
        x.insert(2, 1, 'b' - 256);
        due("compared as they are kept", x.sameText(0, 2), true);
        x.delete(2, 1);
        x.insert(2, 1, 'c');
        due("the last one differs", x.sameText(0, 2), false);
        for (int replica : NO_REPLICAS) {
            due("a is no replica", x.sameText(replica, 0), false);
            due("b is no replica", x.sameText(0, replica), false);
            due("neither is", x.sameText(replica, replica), false);
        }
        RgaText zero = new RgaText();
        zero.insert(0, 0, 0);
        due("a character 0 is a character", zero.sameText(0, 1), false);
    }

    private static void promise12Order() {
        promise = 12;
        RgaText x = new RgaText();
        due("BAD_REPLICA before BAD_PLACE", x.insert(3, -1, 'x'), RgaText.BAD_REPLICA);
        due("BAD_REPLICA before BAD_PLACE", x.delete(-1, 5), RgaText.BAD_REPLICA);
        for (int i = 0; i < 40; i++) {
            x.insert(0, i, 'a');
        }
        due("BAD_REPLICA before FULL", x.insert(-1, 0, 'x'), RgaText.BAD_REPLICA);
        due("BAD_REPLICA before all", x.insert(3, 99, 'x'), RgaText.BAD_REPLICA);
        due("BAD_PLACE before FULL", x.insert(0, 41, 'x'), RgaText.BAD_PLACE);
        due("BAD_PLACE before FULL", x.insert(0, -1, 'x'), RgaText.BAD_PLACE);
        due("BAD_PLACE before FULL", x.insert(1, 1, 'x'), RgaText.BAD_PLACE);
        due("FULL at the end", x.insert(0, 40, 'x'), RgaText.FULL);
        due("FULL for an empty text", x.insert(1, 0, 'x'), RgaText.FULL);
        for (int replica : NO_REPLICAS) {
            due("BAD_REPLICA before SAME", x.learn(replica, replica), RgaText.BAD_REPLICA);
        }
    }

    private static void questionsChangeNothing() {
        promise = 5;
        RgaText asked = new RgaText();
        RgaText quiet = new RgaText();
        for (int i = 0; i < 12; i++) {
            int answer = quiet.insert(i % 3, i / 3, 'a' + i);
            due("insert between questions", asked.insert(i % 3, i / 3, 'a' + i), answer);
            askAll(asked, i % 3);
        }
        meet(asked);
        meet(quiet);
        for (int element = 0; element < 12; element++) {
            due("rank after questions", asked.rank(1, element), quiet.rank(1, element));
        }
    }

    private static void askAll(RgaText x, int replica) {
        for (int place = -1; place < 2; place++) {
            x.length(replica);
            x.charAt(replica, place);
            x.elementAt(replica, place);
            x.placeOf(replica, place);
            x.known(replica);
            x.rank(replica, place);
            x.sameText(replica, place);
        }
    }

    /** The replica writes this at the beginning of its text, each character behind the one before. */
    private static void write(RgaText x, int replica, String characters) {
        for (int i = 0; i < characters.length(); i++) {
            x.insert(replica, i, characters.charAt(i));
        }
    }

    private static void meet(RgaText x) {
        x.learn(0, 1);
        x.learn(0, 2);
        x.learn(1, 0);
        x.learn(2, 0);
    }

    private static void texts(String what, RgaText x, String want) {
        for (int replica = 0; replica < 3; replica++) {
            text(what, x, replica, want);
        }
    }

    private static void text(String what, RgaText x, int replica, String want) {
        StringBuilder got = new StringBuilder();
        int length = x.length(replica);
        for (int place = 0; place < length; place++) {
            got.append((char) x.charAt(replica, place));
        }
        if (!got.toString().equals(want)) {
            wrong++;
            System.out.println("promise " + promise + ": " + what + ": replica " + replica + " has \"" + got
                + "\", due is \"" + want + "\"");
        }
    }

    private static void due(String what, boolean got, boolean want) {
        due(what, got ? 1 : 0, want ? 1 : 0);
    }

    private static void due(String what, int got, int want) {
        if (got != want) {
            wrong++;
            System.out.println("promise " + promise + ": " + what + ": answered " + got + ", due is " + want);
        }
    }
}
