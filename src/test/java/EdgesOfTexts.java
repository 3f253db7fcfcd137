/** Promises 8 to 12, and the input text: each sentence that names an edge, with calls of its own. */
public final class EdgesOfTexts {
    private static final String FIFTEEN = "0-1;0-1;0-1;0-1;0-1;0-1;0-1;0-1;0-1;0-1;0-1;0-1;0-1;0-1;0-1";

    public static void main(String[] args) {
        appendCode();
        appendReturns();
        appendFull();
        appendNamedFirst();
        bufferOfSixty();
        clearReturns();
        clearForgets();
        errorAtEachPlace();
        errorLaterStation();
        errorReturnsIndex();
        errorNone();
        errorOfAnyLength();
        errorFirstOfSeveral();
        errorFromLeftToRight();
        textOfParts();
        textWithOneSeparator();
        allEachWay();
        allOneAfterTheOther();
        allLeftOutAsRefused();
        allLeftOutAtForty();
        allClears();
        allReturns();
        allNotComplete();
        allAsOneCall();
        undoReturns();
        undoLatest();
        undoNone();
        Check.end("EdgesOfTexts");
    }

    // ---- promise 8

    private static void appendCode() {
        Check.sentence("code: the character code, 33 to 126 ... Throws IllegalArgumentException if code is not 33 to 126");
        for (int code = 33; code <= 126; code++) {
            SleeperBerths x = new SleeperBerths();
            Check.due("append(" + code + ")", x.append(code), 1);
            Check.due("digest()", x.digest(), digestWith(code));
        }
        int[] wrong = {32, 127, 0, -1, -33, -126, 10, 128, 33 + 256, 48 + 256, 48 + 65536, 48 - 256, Check.LEAST, Check.GREATEST};
        for (int code : wrong) {
            Check.refused("append(" + code + ")", Check.ARGUMENT, SleeperBerths::new, x -> x.append(code));
            Check.refused("append(" + code + ")", Check.ARGUMENT, States::mixed, x -> x.append(code));
        }
    }

    /** The digest of a new object ends with the length 0; with one character there are the length 1 and the code. */
    private static long digestWith(int code) {
        return 31 * (new SleeperBerths().digest() + 1) + code;
    }

    private static void appendReturns() {
        Check.sentence("Returns the new length of the buffer.");
        SleeperBerths x = new SleeperBerths();
        for (int length = 1; length <= 60; length++) {
            Check.due("append()", x.append(33 + length), length);
        }
        x.clearBuffer();
        for (int length = 1; length <= 60; length++) {
            Check.due("append() behind clearBuffer()", x.append('x'), length);
        }
        SleeperBerths y = States.written("0-1");
        y.bookAll();
        Check.due("append() behind bookAll()", y.append('x'), 1);
        y.undo();
        Check.due("append() behind undo()", y.append('x'), 2);
    }

    private static void appendFull() {
        Check.sentence("Throws IllegalStateException if the buffer has 60 characters");
        SleeperBerths x = States.written(repeated('~', 59));
        Check.due("the 60th", x.append('~'), 60);
        Check.refused("the 61st", Check.STATE, () -> States.written(repeated('~', 60)), y -> y.append('~'));
        Check.refused("the 61st, the least code", Check.STATE, () -> States.written(repeated('!', 60)), y -> y.append(33));
        Check.dueTold("the 61st", Check.told(x, y -> y.append('0')), "throws.IllegalStateException");
        Check.due("60 still", x.clearBuffer(), 60);
        Check.due("then again", x.append('0'), 1);
    }

    private static void appendNamedFirst() {
        Check.sentence("If several exceptions apply, the one that is named first in the throws clause is thrown: append");
        int[] wrong = {32, 127, -1, Check.LEAST, Check.GREATEST};
        for (int code : wrong) {
            Check.refused("a full buffer, append(" + code + ")", Check.ARGUMENT, () -> States.written(repeated('0', 60)), x -> x.append(code));
        }
    }

    private static void bufferOfSixty() {
        Check.sentence("The buffer has at most 60 characters.");
        SleeperBerths x = States.written(FIFTEEN + "!");
        for (int time = 0; time < 100; time++) {
            Check.dueTold("one more", Check.told(x, y -> y.append(';')), "throws.IllegalStateException");
        }
        Check.due("firstError()", x.firstError(), 60);
        Check.due("none of them counts", x.bookAll(), 15);
        Check.due("the last one alone has paid through", x.count(1), 1);
        Check.due("the longest text that paid through throughout", States.written(repeated("0-1!;", 12).substring(0, 59)).bookAll(), 12);
    }

    private static String repeated(String part, int times) {
        StringBuilder text = new StringBuilder();
        for (int time = 0; time < times; time++) {
            text.append(part);
        }
        return text.toString();
    }

    private static String repeated(char sign, int times) {
        StringBuilder text = new StringBuilder();
        for (int time = 0; time < times; time++) {
            text.append(sign);
        }
        return text.toString();
    }

    // ---- promise 9

    private static void clearReturns() {
        Check.sentence("Clears the buffer. Returns the length that it had.");
        for (int length = 0; length <= 60; length++) {
            SleeperBerths x = States.written(repeated('7', length));
            Check.due("clearBuffer()", x.clearBuffer(), length);
            Check.due("clearBuffer() again", x.clearBuffer(), 0);
            Check.due("saved states", x.count(8), 0);
        }
    }

    private static void clearForgets() {
        Check.sentence("Clears the buffer.");
        SleeperBerths x = States.written("0-1;2-3!;4-5");
        x.clearBuffer();
        Check.due("digest()", x.digest(), new SleeperBerths().digest());
        Check.dueTold("bookAll()", Check.told(x, SleeperBerths::bookAll), "throws.IllegalArgumentException");
        States.write(x, "0-");
        Check.dueTold("what was behind does not come again", Check.told(x, SleeperBerths::bookAll), "throws.IllegalArgumentException");
        Check.due("firstError()", x.firstError(), 2);
        x.append('2');
        Check.due("one passenger", x.bookAll(), 1);
        SleeperBerths y = States.written("0-1!;2-3!");
        y.clearBuffer();
        States.write(y, "0-2");
        Check.due("one passenger", y.bookAll(), 1);
        Check.due("not paid through by a sign that was cleared", y.passenger(0, 3), 0);
    }

    // ---- promise 10

    private static void errorAtEachPlace() {
        Check.sentence("each a station, a digit, \"-\", a later station, a digit, and perhaps \"!\" (paid through)");
        everyCode("", "012345678");
        everyCode("3", "-");
        everyCode("3-", "456789");
        everyCode("3-4", "!;");
        everyCode("3-4!", ";");
        everyCode("3-4;", "012345678");
        everyCode("3-4!;", "012345678");
        everyCode("3-4!;8", "-");
        everyCode("3-4!;8-", "9");
        everyCode("3-4!;8-9", "!;");
        everyCode("3-4!;8-9!", ";");
    }

    /** Behind the text each code of all is tried: those of the next ones are no errors, all others are. */
    private static void everyCode(String text, String next) {
        for (int code = 33; code <= 126; code++) {
            SleeperBerths x = States.written(text);
            x.append(code);
            int want = next.indexOf(code) >= 0 ? text.length() + 1 : text.length();
            Check.due("firstError() of " + text + (char) code, x.firstError(), want);
        }
    }

    private static void errorLaterStation() {
        Check.sentence("a later station");
        for (int from = 0; from <= 9; from++) {
            for (int to = 0; to <= 9; to++) {
                SleeperBerths x = States.written(from + "-" + to);
                int want = from == 9 ? 0 : to <= from ? 2 : 3;
                Check.due("firstError() of " + from + "-" + to, x.firstError(), want);
            }
        }
    }

    private static void errorReturnsIndex() {
        Check.sentence("Returns the index of the first character that is a syntax error");
        for (int index = 0; index <= 59; index++) {
            String text = FIFTEEN.substring(0, Math.min(index, 59)) + "x";
            Check.due("firstError() of an x at " + index, States.written(text).firstError(), index);
            SleeperBerths full = States.written(text + repeated(';', 59 - index));
            Check.due("firstError() of an x at " + index + " in a full one", full.firstError(), index);
        }
    }

    private static void errorNone() {
        Check.sentence("the length of the buffer if there is none");
        Check.due("an empty buffer", new SleeperBerths().firstError(), 0);
        for (int length = 0; length <= 59; length++) {
            Check.due("firstError()", States.written(FIFTEEN.substring(0, length)).firstError(), length);
        }
        Check.due("a full buffer", States.written(FIFTEEN + ";").firstError(), 60);
        Check.due("a full buffer", States.written(FIFTEEN + "!").firstError(), 60);
        SleeperBerths x = States.written("0-9");
        Check.due("once", x.firstError(), 3);
        Check.due("again", x.firstError(), 3);
        Check.due("the buffer stays", x.clearBuffer(), 3);
    }

    private static void errorOfAnyLength() {
        Check.sentence("a character is a syntax error if no passengers as a text, of any length, begin with the characters before it and this character");
        Check.due("; at the end of a full buffer", States.written(FIFTEEN + ";").firstError(), 60);
        String part = FIFTEEN.substring(0, 48) + "0-9!;0-9!;8";
        Check.due("a part begun, 59 characters", States.written(part).firstError(), 59);
        Check.due("a part begun, 60 characters", States.written(part + "-").firstError(), 60);
        Check.due("9 begins no part, as no station is later", States.written(FIFTEEN.substring(0, 56) + "9").firstError(), 56);
        Check.due("9 begins no text", States.written("9").firstError(), 0);
    }

    private static void errorFirstOfSeveral() {
        Check.sentence("Finds the first syntax error of the buffer.");
        Check.due("errors at 0 and 1", States.written("xx").firstError(), 0);
        Check.due("an error at 3, then a text", States.written("0-1x2-3").firstError(), 3);
        Check.due("an error at 4, then a text", States.written("0-1;;2-3").firstError(), 4);
        Check.due("an error at 2, then a later station", States.written("5-56").firstError(), 2);
        Check.due("a second sign", States.written("0-1!!;2-3").firstError(), 4);
        Check.due("a sign ahead of ;", States.written("0-1;!2-3").firstError(), 4);
        Check.due("a minus station", States.written("-1-3").firstError(), 0);
        Check.due("two digits", States.written("10-11").firstError(), 1);
    }

    private static void errorFromLeftToRight() {
        Check.sentence("The buffer is read from left to right");
        String[] wrong = {"9", "3;", "3-3", "3-45", "3-4!!", "3-4;;", "3-4;9"};
        for (String text : wrong) {
            SleeperBerths x = States.written(text);
            int index = text.length() - 1;
            Check.due("firstError() of " + text, x.firstError(), index);
            String behind = ";0-1!;0-1-9;;";
            for (int length = 1; length <= behind.length(); length++) {
                x.append(behind.charAt(length - 1));
                Check.due("firstError() of " + text + behind.substring(0, length), x.firstError(), index);
            }
        }
    }

    // ---- the input text

    private static void textOfParts() {
        Check.sentence("Passengers as a text are one or more parts");
        Check.refused("no part", Check.ARGUMENT, SleeperBerths::new, SleeperBerths::bookAll);
        Check.refused("no part, as the buffer was cleared", Check.ARGUMENT, EdgesOfTexts::clearedBuffer, SleeperBerths::bookAll);
        Check.refused("no part, as they were booked", Check.ARGUMENT, EdgesOfTexts::bookedBuffer, SleeperBerths::bookAll);
        for (int parts = 1; parts <= 12; parts++) {
            String text = repeated("2-7!;", parts).substring(0, 5 * parts - 1);
            Check.due("bookAll() of " + text, States.written(text).bookAll(), parts);
        }
    }

    private static SleeperBerths clearedBuffer() {
        SleeperBerths x = States.written("0-1;2-3!");
        x.clearBuffer();
        return x;
    }

    private static SleeperBerths bookedBuffer() {
        SleeperBerths x = States.written("0-1;2-3!");
        x.bookAll();
        return x;
    }

    private static void textWithOneSeparator() {
        Check.sentence("with \";\" between them");
        for (char code = 33; code <= 126; code++) {
            for (String first : new String[] {"0-1", "0-1!"}) {
                String text = first + code + "2-3";
                if (code == ';') {
                    Check.due("bookAll() of " + text, States.written(text).bookAll(), 2);
                } else {
                    Check.refused("bookAll() of " + text, Check.ARGUMENT, () -> States.written(text), SleeperBerths::bookAll);
                }
            }
        }
        String[] wrong = {";", ";;", ";0-1", "0-1;", "0-1!;", "0-1;;2-3", "0-1!;;2-3!", "0-1;2-3;", "0-12-3", "0-1!2-3"};
        for (String text : wrong) {
            Check.refused("bookAll() of " + text, Check.ARGUMENT, () -> States.written(text), SleeperBerths::bookAll);
        }
    }

    // ---- promise 11

    private static void allEachWay() {
        Check.sentence("Books the passengers in the buffer");
        for (int from = 0; from <= 8; from++) {
            for (int to = from + 1; to <= 9; to++) {
                for (int paid = 0; paid <= 1; paid++) {
                    SleeperBerths x = States.written(from + "-" + to + (paid == 1 ? "!" : ""));
                    Check.due("bookAll()", x.bookAll(), 1);
                    Check.due("the first station", x.passenger(0, 1), from);
                    Check.due("the last station", x.passenger(0, 2), to);
                    Check.due("paid through", x.passenger(0, 3), paid);
                    Check.due("legs", x.count(5), to - from);
                }
            }
        }
    }

    private static void allOneAfterTheOther() {
        Check.sentence("one after the other");
        SleeperBerths x = States.written("0-5!;0-9;0-5;5-9;5-9!");
        x.bookAll();
        int[] berths = {0, 2, 1, 0, 1};
        int[] paid = {1, 0, 0, 0, 1};
        for (int place = 0; place < 5; place++) {
            Check.due("number", x.passenger(place, 0), place);
            Check.due("berth of passenger " + place, x.passenger(place, 4), berths[place]);
            Check.due("paid through, passenger " + place, x.passenger(place, 3), paid[place]);
        }
        SleeperBerths y = States.byDay("0: 4-9", "2: 0-4");
        States.write(y, "0-9!;0-9;0-9");
        Check.due("the second one of three, who changes", y.bookAll(), 1);
        Check.due("at", y.passenger(18, 6), 4);
        Check.due("not paid through", y.passenger(18, 3), 0);
    }

    private static void allLeftOutAsRefused() {
        Check.sentence("those that cannot be booked ... are left out");
        SleeperBerths x = States.byDay("0: 4-9", "2: 0-4");
        States.write(x, "0-9!;0-5!;0-4!;5-9!;0-1;4-5");
        Check.due("the third, the fourth and the last", x.bookAll(), 3);
        Check.due("left out", x.count(7), 3);
        Check.due("the third has the number behind", x.passenger(18, 0), 18);
        Check.due("his last station", x.passenger(18, 2), 4);
        Check.due("the fourth has the next one", x.passenger(19, 1), 5);
        Check.due("the last has the next one", x.passenger(20, 1), 4);
        States.write(x, "0-9;4-5;0-1!");
        Check.due("none", x.bookAll(), 0);
        Check.due("left out so far", x.count(7), 6);
        Check.due("bookings", x.count(6), 21);
    }

    private static void allLeftOutAtForty() {
        Check.sentence("(also as there are 40 passengers)");
        for (int crowd = 37; crowd <= 40; crowd++) {
            SleeperBerths x = States.crowd(crowd);
            States.write(x, "3-9!;4-5;8-9");
            Check.due("bookAll() with " + crowd, x.bookAll(), Math.min(3, 40 - crowd));
            Check.due("passengers", x.count(0), 40);
            Check.due("left out", x.count(7), Math.max(0, crowd - 37));
            Check.due("the buffer", x.clearBuffer(), 0);
        }
        SleeperBerths x = States.crowd(39);
        States.write(x, "0-1!;3-9!;0-1!");
        Check.due("one refused, one booked, one too many", x.bookAll(), 1);
        Check.due("left out", x.count(7), 2);
    }

    private static void allClears() {
        Check.sentence("and clears the buffer");
        SleeperBerths x = States.written(FIFTEEN);
        Check.due("15 passengers", x.bookAll(), 15);
        Check.due("the buffer", x.clearBuffer(), 0);
        Check.due("firstError()", x.firstError(), 0);
        States.write(x, FIFTEEN + "!");
        Check.due("3 more, and a full buffer", x.bookAll(), 3);
        Check.due("left out", x.count(7), 12);
        Check.due("the buffer", x.clearBuffer(), 0);
        States.write(x, "0-1");
        Check.due("none", x.bookAll(), 0);
        Check.due("the buffer", x.clearBuffer(), 0);
        SleeperBerths y = States.written("0-1!;2-3!");
        y.bookAll();
        States.write(y, "0-2;2-4");
        Check.due("two more", y.bookAll(), 2);
        Check.due("those who paid through, not by a sign that was cleared", y.count(1), 2);
    }

    private static void allReturns() {
        Check.sentence("Returns how many are booked.");
        for (int parts = 1; parts <= 15; parts++) {
            SleeperBerths x = States.written(FIFTEEN.substring(0, 4 * parts - 1));
            Check.due("parts", x.bookAll(), parts);
            Check.due("passengers", x.count(0), parts);
        }
        for (int left = 0; left <= 3; left++) {
            SleeperBerths x = new SleeperBerths();
            States.bookTimes(x, 18 - left, 0, 1);
            States.write(x, "0-1;0-1!;0-1");
            Check.due("berths left", x.bookAll(), left);
        }
        Check.due("12 that paid through", States.written("0-1!;0-1!;0-1!;0-1!;0-1!;0-1!;0-1!;0-1!;0-1!;0-1!;0-1!;0-1!").bookAll(), 12);
    }

    private static void allNotComplete() {
        Check.sentence("Throws IllegalArgumentException if the buffer is not complete passengers as a text");
        String text = "3-4!;0-9;8-9!";
        for (int length = 0; length <= text.length(); length++) {
            String part = text.substring(0, length);
            if (length == 3 || length == 4 || length == 8 || length == 12 || length == 13) {
                Check.due("bookAll() of " + part, States.written(part).bookAll(), length < 5 ? 1 : length < 10 ? 2 : 3);
            } else {
                Check.refused("bookAll() of " + part, Check.ARGUMENT, () -> States.written(part), SleeperBerths::bookAll);
            }
        }
        String[] wrong = {"x", "9-9", "5-5", "5-4", "0-1x", "0-1!!", "0-1-", "0-1;;0-1", "x0-1", ";0-1", "!0-1", "0-1!0-1", "01", "0-10", FIFTEEN + ";"};
        for (String each : wrong) {
            Check.refused("bookAll() of " + each, Check.ARGUMENT, () -> States.written(each), SleeperBerths::bookAll);
        }
        Check.refused("full, and not complete", Check.ARGUMENT, () -> States.written(repeated('0', 60)), SleeperBerths::bookAll);
        Check.refused("with passengers", Check.ARGUMENT, States::mixed, SleeperBerths::bookAll);
        SleeperBerths x = States.written("3-");
        Check.dueTold("bookAll() of 3-", Check.told(x, SleeperBerths::bookAll), "throws.IllegalArgumentException");
        x.append('4');
        Check.due("the buffer stayed", x.bookAll(), 1);
    }

    private static void allAsOneCall() {
        Check.sentence("Undoable, as one call.");
        SleeperBerths x = States.written(FIFTEEN);
        x.bookAll();
        Check.due("saved states", x.count(8), 1);
        Check.due("undo()", x.undo(), 0);
        Check.due("digest()", x.digest(), new SleeperBerths().digest());
        Check.due("the number of the next", x.book(0, 1, true), 0);
        SleeperBerths y = States.full();
        States.write(y, "0-1;0-1");
        y.bookAll();
        Check.due("left out", y.count(7), 2);
        Check.due("saved, though none is booked", y.undo(), 5);
        Check.due("left out", y.count(7), 0);
        Check.due("passengers", y.count(0), 18);
    }

    // ---- promise 12

    private static void undoReturns() {
        Check.sentence("Returns how many saved states are left.");
        for (int saves = 1; saves <= 14; saves++) {
            SleeperBerths x = new SleeperBerths();
            States.bookTimes(x, saves, 0, 9);
            int saved = Math.min(6, saves);
            for (int left = saved - 1; left >= 0; left--) {
                Check.due("undo()", x.undo(), left);
                Check.due("count(8)", x.count(8), left);
                Check.due("passengers", x.count(0), saves - saved + left);
            }
        }
    }

    private static void undoLatest() {
        Check.sentence("Restores the latest saved state, and drops it.");
        SleeperBerths x = new SleeperBerths();
        x.book(0, 9, true);
        long one = x.digest();
        x.book(0, 9, true);
        Check.due("undo()", x.undo(), 1);
        Check.due("as it was", x.digest(), one);
        x.cut(2, 4);
        x.cut(2, 5);
        x.undo();
        Check.due("the latest, not the dropped one", x.goesTo(2), 4);
        x.set(2, 11);
        x.undo();
        x.undo();
        Check.due("as it was", x.digest(), one);
        x.undo();
        Check.due("as a new one", x.digest(), new SleeperBerths().digest());
        SleeperBerths y = States.withOneWhoChanges();
        y.cancel(18);
        y.undo();
        Check.due("both berths", y.passenger(18, 5) - y.passenger(18, 4), 2);
        long changes = y.digest();
        y.cancel(18);
        y.undo();
        Check.due("one who changes comes back with both berths", y.digest(), changes);
    }

    private static void undoNone() {
        Check.sentence("undo ... Throws IllegalStateException if there is none");
        Check.refused("a new object", Check.STATE, SleeperBerths::new, SleeperBerths::undo);
        Check.refused("with a buffer", Check.STATE, () -> States.written("0-1"), SleeperBerths::undo);
        Check.refused("all six undone", Check.STATE, EdgesOfTexts::sixUndone, SleeperBerths::undo);
        Check.due("those of before the six stay", sixUndone().count(0), 12);
        SleeperBerths x = sixUndone();
        x.book(0, 1, true);
        Check.due("then there is one again", x.undo(), 0);
    }

    private static SleeperBerths sixUndone() {
        SleeperBerths x = States.full();
        for (int time = 0; time < 6; time++) {
            x.undo();
        }
        return x;
    }
}
