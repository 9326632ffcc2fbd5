/**
 * Each sentence of the document that names a boundary, with a test of its own: just inside, just
 * outside and far outside what it allows. What a refused call leaves as it was, and the order of
 * the refusals, is in RefusalsTest.
 */
public final class EdgesTest {
    private static final int CAPACITY = 40;
    private static final int CALLS = 512;
    private static final int LEAST = Integer.MIN_VALUE;
    private static final int GREATEST = Integer.MAX_VALUE;

    private static String sentence = "";
    private static int wrong = 0;

    public static void main(String[] args) {
        whatItIs();
        terms();
        promise1();
        promise2();
        promise3();
        promise4();
        promises5To7();
        promises8To10();
        promise11();
        System.out.println(wrong == 0 ? "all edges hold" : wrong + " answers are not as due");
        if (wrong != 0) {
            System.exit(1);
        }
    }

    private static void whatItIs() {
        constantsHaveTheirValues();
        replicas0To2AreTaken();
        otherReplicasAreRefused();
        allCallsUpToThe512th();
        laterCallsEnd();
    }

    private static void terms() {
        numbersRunOverAllReplicas();
        atMostFortyElements();
        refusedInsertsTakeNoNumber();
        charactersAre0To255();
        textIsWhatIsKnownAndNotDeleted();
        greatestStampFirst();
        equalStampsGreatestOriginFirst();
        equalStampsBelowAnElement();
        elementBeforeAllBelowIt();
        allBelowAChildBeforeTheNext();
        clockIs0AtTheStart();
        clockGoesUpBy1();
        clockIsAtLeastWhatWasLearned();
        learningIsOneWay();
        learningIsComplete();
        learningIsOfThatTime();
    }

    private static void promise1() {
        newObjectHasNoElements();
        newObjectsShareNothing();
    }

    private static void promise2() {
        insertIntoAnEmptyText();
        insertAtEveryPlace();
        insertOutsideTheText();
        insertIntoATextAllDeleted();
        insertBesideDeletedElements();
        insertGoesBehindTheElementOfItsOwnText();
        insertMasksTheCharacter();
        insertAt39And40Elements();
        fullWhoeverInsertedThem();
        fullWhenAllAreDeleted();
    }

    private static void promise3() {
        deleteAtTheEnds();
        deleteOutsideTheText();
        deleteFromAnEmptyText();
        deleteInAFullObject();
        deleteWhatAnotherDeleted();
    }

    private static void promise4() {
        learnFromOneThatKnowsNothing();
        learnTwice();
        learnDeletionsKnownAlready();
        learnAnElementWithItsDeletion();
        learnFortyElementsAndDeletions();
        learnTheSame();
    }

    private static void promises5To7() {
        lengthFrom0To40();
        placesOutsideTheText();
        placesOfAnEmptyText();
        charactersThatLookLikeNothing();
        lastPlaceOfForty();
    }

    private static void promises8To10() {
        numbersThatAreNoElement();
        numbersAmongForty();
        elementsNotKnown();
        elementsDeleted();
        knownFrom0To40();
        ranksFrom0To39();
    }

    private static void promise11() {
        sameOfEmptyTexts();
        sameWithItself();
        sameUpToTheLastCharacter();
        sameCharactersOfOtherElements();
        sameOfFortyElements();
        sameOfNoReplica();
    }

    // What it is, and the public face

    private static void constantsHaveTheirValues() {
        sentence = "the public face's constants";
        due("BAD_REPLICA", RgaText.BAD_REPLICA, -1);
        due("BAD_PLACE", RgaText.BAD_PLACE, -2);
        due("FULL", RgaText.FULL, -3);
        due("SAME", RgaText.SAME, -4);
        due("NONE", RgaText.NONE, -5);
    }

    private static void replicas0To2AreTaken() {
        sentence = "three REPLICAS (0 to 2)";
        for (int replica = 0; replica <= 2; replica++) {
            int next = (replica + 1) % 3;
            RgaText x = new RgaText();
            due("insert", x.insert(replica, 0, 'a'), 0);
            due("length", x.length(replica), 1);
            due("charAt", x.charAt(replica, 0), 'a');
            due("elementAt", x.elementAt(replica, 0), 0);
            due("placeOf", x.placeOf(replica, 0), 0);
            due("known", x.known(replica), 1);
            due("rank", x.rank(replica, 0), 0);
            due("learn", x.learn(next, replica), 1);
            due("sameText", x.sameText(replica, next), true);
            due("delete", x.delete(replica, 0), 0);
            due("learn from the next", x.learn(replica, next), 0);
        }
    }

    private static void otherReplicasAreRefused() {
        sentence = "three REPLICAS (0 to 2), else BAD_REPLICA";
        int[] others = {-1, 3, -2, 4, 39, 40, 80, -40, 255, 256, -256, 1 << 30, -(1 << 30), LEAST, GREATEST};
        for (int replica : others) {
            RgaText x = new RgaText();
            write(x, 0, "a");
            write(x, 1, "b");
            write(x, 2, "c");
            due("insert by " + replica, x.insert(replica, 0, 'a'), -1);
            due("delete by " + replica, x.delete(replica, 0), -1);
            due("learn by " + replica, x.learn(replica, 0), -1);
            due("learn from " + replica, x.learn(0, replica), -1);
            due("length of " + replica, x.length(replica), -1);
            due("charAt of " + replica, x.charAt(replica, 0), -1);
            due("elementAt of " + replica, x.elementAt(replica, 0), -1);
            due("placeOf of " + replica, x.placeOf(replica, 0), -1);
            due("known of " + replica, x.known(replica), -1);
            due("rank of " + replica, x.rank(replica, 0), -1);
        }
    }

    private static void allCallsUpToThe512th() {
        sentence = "An object is used for at most 512 calls";
        RgaText x = new RgaText();
        int calls = 0;
        for (int i = 0; i < CAPACITY; i++) {
            due("insert", x.insert(i % 3, 0, i), i);
            calls++;
        }
        for (int i = 0; i < 10; i++) {
            due("delete", x.delete(1, 0), 37 - 3 * i);
            calls++;
        }
        while (calls < CALLS - 3) {
            due("length in call " + (calls + 1), x.length(calls % 3), calls % 3 == 0 ? 14 : calls % 3 == 1 ? 3 : 13);
            calls++;
        }
        due("the 510th call", x.learn(2, 1), 23);
        due("the 511th call", x.insert(2, 0, 'x'), -3);
        due("the 512th call", x.rank(2, 38), 0);
    }

    private static void laterCallsEnd() {
        sentence = "what later calls answer is free (but each one ends)";
        RgaText x = new RgaText();
        for (int i = 0; i < 4 * CALLS; i++) {
            x.insert(i % 4, i % 7, i);
            x.delete(i % 5, i % 3);
            x.learn(i % 3, i % 4);
            x.rank(i % 3, i);
        }
    }

    // Terms

    private static void numbersRunOverAllReplicas() {
        sentence = "numbered from 0 over all replicas in the order of insertion";
        RgaText x = new RgaText();
        int[] replicas = {2, 0, 0, 1, 2, 1, 0};
        for (int i = 0; i < replicas.length; i++) {
            due("the number of insertion " + i, x.insert(replicas[i], 0, 'a'), i);
            due("the element has it", x.elementAt(replicas[i], 0), i);
        }
    }

    private static void atMostFortyElements() {
        sentence = "numbered from 0: at most 40";
        RgaText x = new RgaText();
        due("the first number", x.insert(0, 0, 'a'), 0);
        for (int i = 1; i < CAPACITY - 1; i++) {
            x.insert(0, 0, 'a');
        }
        due("the last number", x.insert(0, 0, 'a'), 39);
        due("no number is left", x.insert(0, 0, 'a'), -3);
    }

    private static void refusedInsertsTakeNoNumber() {
        sentence = "Every inserted character is an ELEMENT, numbered (a refused one isn't)";
        RgaText x = new RgaText();
        x.insert(3, 0, 'a');
        x.insert(0, 1, 'a');
        due("the first number", x.insert(0, 0, 'a'), 0);
        x.insert(-1, 0, 'a');
        x.insert(0, -1, 'a');
        due("the second number", x.insert(1, 0, 'a'), 1);
    }

    private static void charactersAre0To255() {
        sentence = "a character (a number 0 to 255)";
        for (int first = 0; first <= 255; first += CAPACITY) {
            RgaText x = new RgaText();
            for (int c = first; c < first + CAPACITY && c <= 255; c++) {
                x.insert(1, c - first, c);
                due("character " + c, x.charAt(1, c - first), c);
            }
        }
    }

    private static void textIsWhatIsKnownAndNotDeleted() {
        sentence = "Its TEXT is all elements that it knows and whose deletion it doesn't know";
        RgaText x = new RgaText();
        write(x, 0, "abc");
        x.learn(1, 0);
        x.learn(2, 0);
        x.insert(0, 3, 'd');
        x.delete(1, 0);
        text("one more inserted here", x, 0, "abcd");
        text("one deleted here", x, 1, "bc");
        text("neither known here", x, 2, "abc");
        x.learn(2, 1);
        x.learn(2, 0);
        text("both known here", x, 2, "bcd");
    }

    private static void greatestStampFirst() {
        sentence = "Children of one parent are ordered by stamp, the greatest first";
        // Replica 2's only stamp is 1, replica 0's are 1 to 3: no origin outdoes a stamp.
        RgaText x = new RgaText();
        x.insert(2, 0, 'z');
        x.insert(0, 0, 'a');
        x.insert(0, 0, 'b');
        x.insert(0, 0, 'c');
        meet(x);
        texts("at the beginning", x, "cbza");
        x.insert(2, 1, 'y');
        x.insert(0, 1, 'd');
        x.insert(0, 1, 'e');
        meet(x);
        texts("below an element", x, "ceydbza");
    }

    private static void equalStampsGreatestOriginFirst() {
        sentence = "of equal stamps by origin, the greatest first";
        int[][] turns = {{0, 1, 2}, {0, 2, 1}, {1, 0, 2}, {1, 2, 0}, {2, 0, 1}, {2, 1, 0}};
        for (int[] turn : turns) {
            RgaText x = new RgaText();
            for (int replica : turn) {
                x.insert(replica, 0, 'a' + replica);
            }
            x.learn(turn[2], turn[0]);
            x.learn(turn[2], turn[1]);
            text("inserted in the order " + turn[0] + turn[1] + turn[2], x, turn[2], "cba");
            meet(x);
            texts("and all learned", x, "cba");
        }
    }

    private static void equalStampsBelowAnElement() {
        sentence = "of equal stamps by origin, the greatest first (below an element)";
        int[][] turns = {{0, 1, 2}, {0, 2, 1}, {1, 0, 2}, {1, 2, 0}, {2, 0, 1}, {2, 1, 0}};
        for (int[] turn : turns) {
            RgaText x = new RgaText();
            write(x, 1, "<>");
            meet(x);
            for (int replica : turn) {
                x.insert(replica, 1, 'a' + replica);
                x.insert(replica, 2, 'A' + replica);
            }
            meet(x);
            texts("inserted in the order " + turn[0] + turn[1] + turn[2], x, "<cCbBaA>");
        }
    }

    private static void elementBeforeAllBelowIt() {
        sentence = "an element comes before all elements below it";
        // The stamps grow on the way down, and still each one stands behind its parent.
        RgaText x = new RgaText();
        for (int i = 0; i < 9; i++) {
            int replica = i % 3;
            x.insert(replica, i, 'a' + i);
            x.learn((i + 1) % 3, replica);
        }
        meet(x);
        texts("a chain of nine", x, "abcdefghi");
        for (int element = 0; element < 9; element++) {
            due("rank of " + element, x.rank(1, element), element);
        }
    }

    private static void allBelowAChildBeforeTheNext() {
        sentence = "everything below or at a child comes before the next child";
        RgaText x = new RgaText();
        write(x, 0, "ab");
        write(x, 1, "cd");
        meet(x);
        texts("two runs with equal stamps", x, "cdab");
        // Great stamps below the last child don't bring them before the first one.
        x.insert(0, 4, 'e');
        x.insert(0, 4, 'f');
        x.insert(2, 2, 'g');
        meet(x);
        texts("more below each", x, "cdgabfe");
        x.delete(1, 0);
        x.delete(1, 0);
        x.insert(0, 1, 'h');
        meet(x);
        texts("below a deleted child", x, "hgabfe");
        due("rank below a deleted child", x.rank(0, 7), 1);
    }

    private static void clockIs0AtTheStart() {
        sentence = "A replica has a CLOCK, 0 at the start";
        for (int replica = 0; replica < 3; replica++) {
            for (int ruler = 0; ruler < 3; ruler++) {
                if (ruler != replica) {
                    due("the first stamp of " + replica, nextStamp(new RgaText(), replica, ruler), 1);
                }
            }
        }
    }

    private static void clockGoesUpBy1() {
        sentence = "an insertion's stamp is the clock after it goes up by 1";
        for (int before = 0; before < 10; before++) {
            RgaText x = new RgaText();
            for (int i = 0; i < before; i++) {
                x.insert(1, i / 2, 'a');
            }
            due("the stamp after " + before, nextStamp(x, 1, 0), before + 1);
        }
        RgaText x = new RgaText();
        write(x, 0, "abc");
        x.delete(0, 2);
        x.delete(0, 0);
        due("a deletion is no insertion", nextStamp(x, 0, 2), 4);
    }

    private static void clockIsAtLeastWhatWasLearned() {
        sentence = "Whenever a replica learns of an element, its clock becomes at least the element's stamp";
        for (int own = 0; own < 6; own++) {
            RgaText x = new RgaText();
            write(x, 1, "abcdef".substring(0, own));
            write(x, 0, "xyz");
            x.learn(1, 0);
            due("stamp 3 learned at clock " + own, nextStamp(x, 1, 2), Math.max(own, 3) + 1);
        }
        RgaText x = new RgaText();
        write(x, 0, "xyz");
        x.learn(1, 0);
        due("the one learned from keeps its clock", nextStamp(x, 0, 2), 4);
        x = new RgaText();
        write(x, 0, "xyz");
        x.delete(0, 0);
        x.delete(0, 0);
        x.delete(0, 0);
        x.learn(1, 0);
        due("elements with their deletions", nextStamp(x, 1, 2), 4);
        x = new RgaText();
        write(x, 0, "xyz");
        x.learn(1, 0);
        x.insert(1, 0, 'a');
        x.delete(0, 0);
        x.learn(1, 0);
        due("a deletion alone", nextStamp(x, 1, 2), 5);
    }

    private static void learningIsOneWay() {
        sentence = "LEARNING is one way";
        RgaText x = new RgaText();
        write(x, 0, "ab");
        write(x, 1, "cd");
        x.delete(0, 0);
        x.learn(1, 0);
        text("the learner", x, 1, "cdb");
        text("the one learned from", x, 0, "b");
        text("the third", x, 2, "");
        due("what the one learned from knows", x.known(0), 2);
    }

    private static void learningIsComplete() {
        sentence = "LEARNING is complete: everything (elements and deletions) that another one knows";
        RgaText x = new RgaText();
        write(x, 0, "abc");
        x.learn(1, 0);
        x.delete(0, 1);
        x.insert(1, 3, 'd');
        x.delete(1, 0);
        x.learn(0, 1);
        // Replica 2 has all of it from 0 alone, also what came from 1.
        due("elements and deletions", x.learn(2, 0), 6);
        text("what it has then", x, 2, "cd");
        due("and knows", x.known(2), 4);
    }

    private static void learningIsOfThatTime() {
        sentence = "a replica learns everything that another one knows at that time";
        RgaText x = new RgaText();
        write(x, 0, "ab");
        x.learn(1, 0);
        x.insert(0, 2, 'c');
        x.delete(0, 0);
        text("what came later isn't known", x, 1, "ab");
        due("known", x.known(1), 2);
        due("learned the next time", x.learn(1, 0), 2);
        text("is known now", x, 1, "bc");
    }

    // Promise 1

    private static void newObjectHasNoElements() {
        sentence = "1: No elements";
        for (int replica = 0; replica < 3; replica++) {
            RgaText x = new RgaText();
            text("a new text", x, replica, "");
            due("known", x.known(replica), 0);
            due("rank of 0", x.rank(replica, 0), -5);
            due("placeOf 0", x.placeOf(replica, 0), -5);
            due("nothing to learn", x.learn(replica, (replica + 1) % 3), 0);
            due("nothing to delete", x.delete(replica, 0), -2);
            due("the first number", x.insert(replica, 0, 'a'), 0);
        }
    }

    private static void newObjectsShareNothing() {
        sentence = "1: RgaText(): No elements; every clock is 0 (whatever other objects hold)";
        RgaText full = new RgaText();
        write(full, 0, "abcdefghijklmnopqrstuvwxyzabcdefghijklmn");
        due("the other is full", full.insert(0, 0, 'a'), -3);
        RgaText x = new RgaText();
        text("a new text", x, 0, "");
        due("its first number", x.insert(0, 0, 'z'), 0);
        due("the first stamp", nextStamp(new RgaText(), 0, 1), 1);
        due("the full one has its first", full.charAt(0, 0), 'a');
    }

    // Promise 2

    private static void insertIntoAnEmptyText() {
        sentence = "2: place not in 0 to the text's length: BAD_PLACE (an empty text)";
        for (int replica = 0; replica < 3; replica++) {
            RgaText x = new RgaText();
            due("place -1", x.insert(replica, -1, 'a'), -2);
            due("place 1", x.insert(replica, 1, 'a'), -2);
            due("place 0", x.insert(replica, 0, 'a'), 0);
            text("then", x, replica, "a");
        }
    }

    private static void insertAtEveryPlace() {
        sentence = "2: inserts a character so that its text has it at this place";
        for (int place = 0; place <= 5; place++) {
            RgaText x = new RgaText();
            write(x, 0, "ce");
            write(x, 2, "abd");
            meet(x);
            text("before", x, 1, "abdce");
            due("the number", x.insert(1, place, '!'), 5);
            text("place " + place, x, 1, "abdce".substring(0, place) + "!" + "abdce".substring(place));
            due("elementAt " + place, x.elementAt(1, place), 5);
            due("placeOf", x.placeOf(1, 5), place);
            meet(x);
            texts("learned by all", x, "abdce".substring(0, place) + "!" + "abdce".substring(place));
        }
    }

    private static void insertOutsideTheText() {
        sentence = "2: place not in 0 to the text's length: BAD_PLACE";
        RgaText x = new RgaText();
        write(x, 0, "abc");
        write(x, 1, "defgh");
        for (int place : new int[] {-1, 4, -2, 5, 39, 40, 41, -40, 1 << 30, LEAST, LEAST + 1, GREATEST - 1, GREATEST}) {
            due("place " + place, x.insert(0, place, 'x'), -2);
        }
        text("nothing came", x, 0, "abc");
        due("at the length", x.insert(0, 3, 'x'), 8);
        due("at 0", x.insert(0, 0, 'x'), 9);
        text("both came", x, 0, "xabcx");
    }

    private static void insertIntoATextAllDeleted() {
        sentence = "2: place not in 0 to the text's length: BAD_PLACE (all deleted)";
        RgaText x = new RgaText();
        write(x, 0, "abc");
        x.delete(0, 0);
        x.delete(0, 0);
        x.delete(0, 0);
        due("place 1", x.insert(0, 1, 'x'), -2);
        due("place 3", x.insert(0, 3, 'x'), -2);
        due("place -1", x.insert(0, -1, 'x'), -2);
        due("place 0", x.insert(0, 0, 'x'), 3);
        due("at the beginning, before the deleted ones", x.rank(0, 3), 0);
        text("then", x, 0, "x");
    }

    private static void insertBesideDeletedElements() {
        sentence = "2: behind the element that its text has at place - 1, or at the beginning for place 0";
        RgaText x = new RgaText();
        write(x, 0, "abcde");
        x.delete(0, 0);
        x.delete(0, 1);
        x.delete(0, 2);
        text("b and d are left", x, 0, "bd");
        due("place 0", x.insert(0, 0, 'x'), 5);
        due("before the deleted a", x.rank(0, 5), 0);
        due("place 2, behind b", x.insert(0, 2, 'y'), 6);
        due("before the deleted c", x.rank(0, 6), 3);
        due("place 4, behind d", x.insert(0, 4, 'z'), 7);
        due("before the deleted e", x.rank(0, 7), 6);
        text("then", x, 0, "xbydz");
        due("the deleted a", x.rank(0, 0), 1);
        due("the deleted c", x.rank(0, 2), 4);
        due("the deleted e", x.rank(0, 4), 7);
    }

    private static void insertGoesBehindTheElementOfItsOwnText() {
        sentence = "2: behind the element that its text has at place - 1 (another's text may have others there)";
        RgaText x = new RgaText();
        write(x, 0, "ad");
        x.learn(1, 0);
        write(x, 0, "123");
        x.insert(0, 4, 'b');
        text("one text", x, 0, "123abd");
        x.insert(1, 1, 'c');
        text("the other text", x, 1, "acd");
        meet(x);
        texts("both", x, "123abcd");
    }

    private static void insertMasksTheCharacter() {
        sentence = "2: a character (c & 255)";
        int[] given = {0, 1, 127, 128, 254, 255, 256, 257, 511, 512, 65535, 65536, -1, -2, -255, -256, -257, LEAST, LEAST + 1, GREATEST, GREATEST - 1};
        int[] kept = {0, 1, 127, 128, 254, 255, 0, 1, 255, 0, 255, 0, 255, 254, 1, 0, 255, 0, 1, 255, 254};
        RgaText x = new RgaText();
        for (int i = 0; i < given.length; i++) {
            due("insert of " + given[i], x.insert(2, i, given[i]), i);
            due("character " + given[i], x.charAt(2, i), kept[i]);
        }
        x.learn(0, 2);
        due("the learner has them too", x.charAt(0, 13), 254);
    }

    private static void insertAt39And40Elements() {
        sentence = "2: there are forty elements: FULL";
        for (int replica = 0; replica < 3; replica++) {
            RgaText x = new RgaText();
            fill(x, replica, 39);
            due("with 39", x.insert(replica, 39, 'x'), 39);
            due("with 40, at the end", x.insert(replica, 40, 'x'), -3);
            due("with 40, at the beginning", x.insert(replica, 0, 'x'), -3);
            due("with 40, in the middle", x.insert(replica, 20, 'x'), -3);
            due("length", x.length(replica), 40);
            due("the last one", x.charAt(replica, 39), 'x');
        }
    }

    private static void fullWhoeverInsertedThem() {
        sentence = "2: there are forty elements: FULL (over all replicas)";
        RgaText x = new RgaText();
        fill(x, 0, 20);
        fill(x, 1, 19);
        due("the fortieth", x.insert(0, 0, 'x'), 39);
        due("for 0", x.insert(0, 0, 'x'), -3);
        due("for 1", x.insert(1, 0, 'x'), -3);
        due("for 2, which knows none", x.insert(2, 0, 'x'), -3);
    }

    private static void fullWhenAllAreDeleted() {
        sentence = "2: there are forty elements: FULL (deleted ones are elements)";
        RgaText x = new RgaText();
        fill(x, 0, 40);
        for (int i = 0; i < 40; i++) {
            x.delete(0, 39 - i);
        }
        due("nothing left", x.length(0), 0);
        due("still FULL", x.insert(0, 0, 'x'), -3);
        x.learn(1, 0);
        due("FULL for the learner too", x.insert(1, 0, 'x'), -3);
    }

    // Promise 3

    private static void deleteAtTheEnds() {
        sentence = "3: deletes the character that its text has at this place; answers the element's number";
        RgaText x = new RgaText();
        write(x, 1, "bcd");
        x.insert(1, 0, 'a');
        due("the first", x.delete(1, 0), 3);
        due("the last", x.delete(1, 2), 2);
        text("then", x, 1, "bc");
        due("the second", x.delete(1, 1), 1);
        due("the only one", x.delete(1, 0), 0);
        text("none left", x, 1, "");
        due("all known still", x.known(1), 4);
    }

    private static void deleteOutsideTheText() {
        sentence = "3: there is none: BAD_PLACE";
        RgaText x = new RgaText();
        write(x, 0, "abcd");
        x.learn(1, 0);
        x.delete(0, 3);
        for (int place : new int[] {-1, 3, -2, 4, 39, 40, -5, -40, 1 << 30, LEAST, GREATEST}) {
            due("place " + place, x.delete(0, place), -2);
        }
        text("nothing went", x, 0, "abc");
        due("where the text is longer", x.delete(1, 3), 3);
        due("the last place", x.delete(0, 2), 2);
    }

    private static void deleteFromAnEmptyText() {
        sentence = "3: there is none: BAD_PLACE (an empty text)";
        RgaText x = new RgaText();
        due("a new object", x.delete(0, 0), -2);
        due("place -1", x.delete(0, -1), -2);
        x.insert(1, 0, 'a');
        due("another's text has one", x.delete(0, 0), -2);
        x.delete(1, 0);
        due("the only one is deleted", x.delete(1, 0), -2);
    }

    private static void deleteInAFullObject() {
        sentence = "3: Else answers the element's number (with forty elements)";
        RgaText x = new RgaText();
        fill(x, 0, 40);
        due("beyond the last place", x.delete(0, 40), -2);
        due("the last place", x.delete(0, 39), 39);
        due("the last place is no more", x.delete(0, 39), -2);
        for (int i = 0; i < 39; i++) {
            due("the first place", x.delete(0, 0), i);
        }
        due("none left", x.delete(0, 0), -2);
    }

    private static void deleteWhatAnotherDeleted() {
        sentence = "3: deletes the character that its text has at this place (another has deleted it already)";
        RgaText x = new RgaText();
        write(x, 0, "ab");
        x.learn(1, 0);
        due("one deletes it", x.delete(0, 0), 0);
        due("the other has it still", x.charAt(1, 0), 'a');
        due("and deletes it", x.delete(1, 0), 0);
        text("the one", x, 0, "b");
        text("the other", x, 1, "b");
    }

    // Promise 4

    private static void learnFromOneThatKnowsNothing() {
        sentence = "4: answers how many it learned that it did not know (none)";
        RgaText x = new RgaText();
        due("neither knows anything", x.learn(0, 1), 0);
        write(x, 0, "abc");
        due("from one that knows nothing", x.learn(0, 1), 0);
        text("as before", x, 0, "abc");
        text("as before", x, 1, "");
    }

    private static void learnTwice() {
        sentence = "4: that it did not know";
        RgaText x = new RgaText();
        write(x, 0, "abc");
        x.delete(0, 0);
        due("the first time", x.learn(2, 0), 4);
        due("the second time", x.learn(2, 0), 0);
        due("and back", x.learn(0, 2), 0);
        x.learn(1, 2);
        due("what came by way of another", x.learn(1, 0), 0);
        x.insert(0, 0, 'd');
        due("one element more", x.learn(1, 0), 1);
        x.delete(0, 0);
        due("one deletion more", x.learn(1, 0), 1);
    }

    private static void learnDeletionsKnownAlready() {
        sentence = "4: how many elements and deletions together (a deletion that is known already)";
        RgaText x = new RgaText();
        write(x, 0, "abc");
        meet(x);
        x.delete(0, 0);
        x.delete(1, 0);
        x.delete(1, 0);
        due("one of two is known already", x.learn(0, 1), 1);
        due("both are known already", x.learn(1, 0), 0);
        text("then", x, 0, "c");
        due("both new to the third", x.learn(2, 0), 2);
        due("known already from the other", x.learn(2, 1), 0);
    }

    private static void learnAnElementWithItsDeletion() {
        sentence = "4: how many elements and deletions together (an element with its deletion)";
        RgaText x = new RgaText();
        x.insert(0, 0, 'a');
        x.delete(0, 0);
        due("two things", x.learn(1, 0), 2);
        due("known", x.known(1), 1);
        due("not in the text", x.length(1), 0);
        due("rank", x.rank(1, 0), 0);
    }

    private static void learnFortyElementsAndDeletions() {
        sentence = "4: how many elements and deletions together (forty of each)";
        RgaText x = new RgaText();
        fill(x, 0, 40);
        due("forty elements", x.learn(1, 0), 40);
        for (int i = 0; i < 40; i++) {
            x.delete(0, 0);
        }
        due("forty deletions", x.learn(1, 0), 40);
        due("both", x.learn(2, 1), 80);
        due("none more", x.learn(2, 0), 0);
        due("all known", x.known(2), 40);
        text("nothing left", x, 2, "");
    }

    private static void learnTheSame() {
        sentence = "4: the same: SAME";
        RgaText x = new RgaText();
        for (int replica = 0; replica < 3; replica++) {
            due("with nothing known", x.learn(replica, replica), -4);
            x.insert(replica, 0, 'a');
            due("with one known", x.learn(replica, replica), -4);
        }
    }

    // Promises 5 to 7

    private static void lengthFrom0To40() {
        sentence = "5: The length of the replica's text";
        RgaText x = new RgaText();
        for (int i = 0; i < 40; i++) {
            due("length", x.length(1), i);
            x.insert(1, i, 'a');
        }
        due("length of forty", x.length(1), 40);
        due("of one that knows nothing", x.length(0), 0);
        for (int i = 40; i > 0; i--) {
            x.delete(1, 0);
            due("length after a deletion", x.length(1), i - 1);
        }
    }

    private static void placesOutsideTheText() {
        sentence = "6 and 7: NONE if there is none";
        RgaText x = new RgaText();
        write(x, 0, "abcd");
        x.delete(0, 3);
        write(x, 1, "efghij");
        for (int place : new int[] {-1, 3, -2, 4, 5, 39, 40, 80, -40, -5, 1 << 30, LEAST, GREATEST}) {
            due("charAt " + place, x.charAt(0, place), -5);
            due("elementAt " + place, x.elementAt(0, place), -5);
        }
        due("charAt 0", x.charAt(0, 0), 'a');
        due("elementAt 0", x.elementAt(0, 0), 0);
        due("charAt 2", x.charAt(0, 2), 'c');
        due("elementAt 2", x.elementAt(0, 2), 2);
    }

    private static void placesOfAnEmptyText() {
        sentence = "6 and 7: NONE if there is none (an empty text)";
        RgaText x = new RgaText();
        x.insert(0, 0, 'a');
        x.insert(1, 0, 'b');
        x.delete(1, 0);
        for (int replica = 1; replica < 3; replica++) {
            for (int place = -1; place <= 1; place++) {
                due("charAt " + place, x.charAt(replica, place), -5);
                due("elementAt " + place, x.elementAt(replica, place), -5);
            }
        }
    }

    private static void charactersThatLookLikeNothing() {
        sentence = "6: The character that its text has at this place (0, and -5 & 255)";
        RgaText x = new RgaText();
        x.insert(0, 0, 0);
        x.insert(0, 1, -5);
        due("a character 0", x.charAt(0, 0), 0);
        due("-5 is kept as 251", x.charAt(0, 1), 251);
        due("behind them", x.charAt(0, 2), -5);
    }

    private static void lastPlaceOfForty() {
        sentence = "6 and 7: what its text has at this place (forty elements)";
        RgaText x = new RgaText();
        for (int i = 0; i < 40; i++) {
            x.insert(2, 0, 100 + i);
        }
        due("the first character", x.charAt(2, 0), 139);
        due("the last character", x.charAt(2, 39), 100);
        due("charAt 40", x.charAt(2, 40), -5);
        due("the first element", x.elementAt(2, 0), 39);
        due("the last element", x.elementAt(2, 39), 0);
        due("elementAt 40", x.elementAt(2, 40), -5);
        due("of another", x.elementAt(1, 39), -5);
    }

    // Promises 8 to 10

    private static void numbersThatAreNoElement() {
        sentence = "8 and 10: NONE (no such element)";
        RgaText x = new RgaText();
        write(x, 0, "ab");
        write(x, 1, "cd");
        meet(x);
        for (int number : new int[] {-1, 4, -2, 5, 39, 40, 41, 80, 119, 120, -39, -40, -80, -5, 1 << 30, LEAST, GREATEST}) {
            for (int replica = 0; replica < 3; replica++) {
                due("placeOf " + number, x.placeOf(replica, number), -5);
                due("rank " + number, x.rank(replica, number), -5);
            }
        }
        due("placeOf 0", x.placeOf(2, 0), 2);
        due("placeOf 3", x.placeOf(2, 3), 1);
        due("rank 0", x.rank(2, 0), 2);
        due("rank 3", x.rank(2, 3), 1);
    }

    private static void numbersAmongForty() {
        sentence = "8 and 10: NONE (beside forty elements)";
        RgaText x = new RgaText();
        fill(x, 1, 40);
        meet(x);
        for (int replica = 0; replica < 3; replica++) {
            due("placeOf 39", x.placeOf(replica, 39), 39);
            due("rank 39", x.rank(replica, 39), 39);
            for (int number : new int[] {-1, 40, 41, 79, 80, 120, -40, LEAST, GREATEST}) {
                due("placeOf " + number, x.placeOf(replica, number), -5);
                due("rank " + number, x.rank(replica, number), -5);
            }
        }
    }

    private static void elementsNotKnown() {
        sentence = "8: NONE if its text doesn't have it; 10: NONE if it doesn't know the element";
        RgaText x = new RgaText();
        for (int replica = 0; replica < 3; replica++) {
            x.insert(replica, 0, 'a');
        }
        for (int replica = 0; replica < 3; replica++) {
            for (int element = 0; element < 3; element++) {
                int want = replica == element ? 0 : -5;
                due("placeOf " + element + " for " + replica, x.placeOf(replica, element), want);
                due("rank of " + element + " for " + replica, x.rank(replica, element), want);
            }
        }
    }

    private static void elementsDeleted() {
        sentence = "8: NONE if its text doesn't have it; 10: deleted ones counted in";
        RgaText x = new RgaText();
        write(x, 0, "abc");
        x.learn(1, 0);
        x.delete(0, 0);
        due("placeOf the deleted one", x.placeOf(0, 0), -5);
        due("rank of the deleted one", x.rank(0, 0), 0);
        due("placeOf the one behind it", x.placeOf(0, 1), 0);
        due("rank of the one behind it", x.rank(0, 1), 1);
        due("placeOf where the deletion isn't known", x.placeOf(1, 0), 0);
        due("placeOf behind it there", x.placeOf(1, 1), 1);
        x.delete(0, 1);
        due("placeOf the last, deleted", x.placeOf(0, 2), -5);
        due("rank of the last, deleted", x.rank(0, 2), 2);
    }

    private static void knownFrom0To40() {
        sentence = "9: How many elements it knows, deleted ones counted in";
        RgaText x = new RgaText();
        for (int i = 0; i < 40; i++) {
            due("known", x.known(2), i);
            x.insert(2, 0, 'a');
            x.delete(2, 0);
        }
        due("forty deleted ones", x.known(2), 40);
        due("of one that knows nothing", x.known(1), 0);
        x.learn(1, 2);
        due("of one that learned forty with their deletions", x.known(1), 40);
    }

    private static void ranksFrom0To39() {
        sentence = "10: How many elements stand before this one in its document order, deleted ones counted in";
        RgaText x = new RgaText();
        for (int i = 0; i < 40; i++) {
            x.insert(0, 0, 'a');
        }
        for (int i = 0; i < 20; i++) {
            x.delete(0, i);
        }
        x.learn(2, 0);
        for (int element = 0; element < 40; element++) {
            due("rank of " + element, x.rank(0, element), 39 - element);
            due("rank for the learner of " + element, x.rank(2, element), 39 - element);
            due("rank where it isn't known of " + element, x.rank(1, element), -5);
        }
    }

    // Promise 11

    private static void sameOfEmptyTexts() {
        sentence = "11: Whether two replicas' texts are the same (empty texts)";
        RgaText x = new RgaText();
        due("both new", x.sameText(0, 2), true);
        x.insert(0, 0, 0);
        due("a character 0 and nothing", x.sameText(0, 2), false);
        due("nothing and a character 0", x.sameText(2, 0), false);
        x.delete(0, 0);
        due("all deleted and nothing", x.sameText(0, 2), true);
        due("nothing and all deleted", x.sameText(2, 0), true);
    }

    private static void sameWithItself() {
        sentence = "11: Whether two replicas' texts are the same (one with itself)";
        RgaText x = new RgaText();
        write(x, 0, "ab");
        for (int replica = 0; replica < 3; replica++) {
            due("with itself", x.sameText(replica, replica), true);
        }
    }

    private static void sameUpToTheLastCharacter() {
        sentence = "11: character by character";
        RgaText x = new RgaText();
        write(x, 0, "abc");
        write(x, 1, "abd");
        write(x, 2, "ab");
        due("the last one differs", x.sameText(0, 1), false);
        due("the last one is missing", x.sameText(0, 2), false);
        due("there is one more", x.sameText(2, 0), false);
        x.delete(0, 2);
        due("the last one is deleted", x.sameText(0, 2), true);
        x.delete(0, 0);
        x.insert(0, 0, 'x');
        due("the first one differs", x.sameText(0, 2), false);
        x.delete(0, 1);
        due("the same length once, now shorter", x.sameText(0, 2), false);
    }

    private static void sameCharactersOfOtherElements() {
        sentence = "11: character by character (not element by element)";
        RgaText x = new RgaText();
        write(x, 0, "aba");
        write(x, 1, "aba");
        due("the same written twice", x.sameText(0, 1), true);
        x.learn(0, 1);
        due("both together", x.sameText(0, 1), false);
        x.delete(0, 3);
        x.delete(0, 3);
        x.delete(0, 3);
        due("one of them deleted", x.sameText(0, 1), true);
    }

    private static void sameOfFortyElements() {
        sentence = "11: character by character (forty elements)";
        RgaText x = new RgaText();
        fill(x, 0, 40);
        x.learn(1, 0);
        due("forty the same", x.sameText(0, 1), true);
        x.delete(1, 39);
        due("the fortieth is missing", x.sameText(0, 1), false);
        due("the fortieth is more", x.sameText(1, 0), false);
        RgaText y = new RgaText();
        fill(y, 0, 20);
        fill(y, 1, 19);
        y.insert(1, 19, 'z');
        due("the last of twenty differs", y.sameText(0, 1), false);
    }

    private static void sameOfNoReplica() {
        sentence = "11: false if one is not in 0 to 2";
        RgaText x = new RgaText();
        for (int replica : new int[] {-1, 3, -2, 4, 40, -40, LEAST, GREATEST}) {
            for (int other = 0; other < 3; other++) {
                due("a is " + replica, x.sameText(replica, other), false);
                due("b is " + replica, x.sameText(other, replica), false);
            }
            due("both are " + replica, x.sameText(replica, replica), false);
        }
        due("-1 and 3", x.sameText(-1, 3), false);
        due("0 and 2 are", x.sameText(0, 2), true);
    }

    /**
     * The stamp of the replica's next insertion. The ruler, which must know nothing, makes elements
     * with the stamps 1 to 15 at the beginning; where the new one stands among them tells its stamp.
     */
    private static int nextStamp(RgaText x, int replica, int ruler) {
        for (int i = 0; i < 15; i++) {
            x.insert(ruler, 0, '.');
        }
        int element = x.insert(replica, 0, '!');
        x.learn(replica, ruler);
        int before = x.rank(replica, element);
        return 15 - before + (ruler > replica ? 1 : 0);
    }

    private static void fill(RgaText x, int replica, int count) {
        for (int i = 0; i < count; i++) {
            x.insert(replica, i, 'a' + i % 26);
        }
    }

    /** The replica writes this at the beginning of its text, each character behind the one before. */
    private static void write(RgaText x, int replica, String characters) {
        for (int i = 0; i < characters.length(); i++) {
            x.insert(replica, i, characters.charAt(i));
        }
    }

    private static void meet(RgaText x) {
        x.learn(0, 1);
        x.learn(0, 2);
        x.learn(1, 0);
        x.learn(2, 0);
    }

    private static void texts(String what, RgaText x, String want) {
        for (int replica = 0; replica < 3; replica++) {
            text(what, x, replica, want);
        }
    }

    private static void text(String what, RgaText x, int replica, String want) {
        StringBuilder got = new StringBuilder();
        int length = x.length(replica);
        for (int place = 0; place < length; place++) {
            got.append((char) x.charAt(replica, place));
        }
        if (!got.toString().equals(want)) {
            tell(what + ": replica " + replica + " has \"" + got + "\", due is \"" + want + "\"");
        }
    }

    private static void due(String what, boolean got, boolean want) {
        if (got != want) {
            tell(what + ": answered " + got + ", due is " + want);
        }
    }

    private static void due(String what, int got, int want) {
        if (got != want) {
            tell(what + ": answered " + got + ", due is " + want);
        }
    }

    private static void tell(String fault) {
        wrong++;
        System.out.println("\"" + sentence + "\": " + fault);
    }
}
