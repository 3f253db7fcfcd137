/**
 * How the tests of edges tell: each sentence of the document is named, then its calls are held against what is due.
 * A sentence behind which nothing is checked counts as a fault, so that none stands there for show.
 */
final class Check {
    static final int NONE = -1;
    static final int LEAST = Integer.MIN_VALUE;
    static final int GREATEST = Integer.MAX_VALUE;

    static final Class<?> ARGUMENT = IllegalArgumentException.class;
    static final Class<?> STATE = IllegalStateException.class;
    static final Class<?> BOUNDS = IndexOutOfBoundsException.class;

    private static final int MOST_TOLD = 40;

    private static String sentence = "";
    private static int sentences = 0;
    private static int checks = 0;
    private static int wrong = 0;

    interface Start {
        SleeperBerths make();
    }

    interface Call {
        long on(SleeperBerths x);
    }

    private Check() {
    }

    static void sentence(String words) {
        closeSentence();
        sentence = words;
        sentences++;
        checks = 0;
    }

    private static void closeSentence() {
        if (sentences > 0 && checks == 0) {
            tell("nothing is checked");
        }
    }

    private static void tell(String fault) {
        wrong++;
        if (wrong <= MOST_TOLD) {
            System.out.println("\"" + sentence + "\": " + fault);
        }
    }

    static void due(String call, long got, long want) {
        checks++;
        if (got != want) {
            tell(call + " answered " + got + ", due is " + want);
        }
    }

    static void dueBits(String call, double got, double want) {
        checks++;
        if (Double.doubleToLongBits(got) != Double.doubleToLongBits(want)) {
            tell(call + " answered " + got + ", due is " + want);
        }
    }

    static void unlike(String what, long one, long other) {
        checks++;
        if (one == other) {
            tell(what + " are alike");
        }
    }

    /** What a call answers or throws, as a text. */
    static String told(SleeperBerths x, Call call) {
        try {
            return Long.toString(call.on(x));
        } catch (RuntimeException e) {
            return "throws." + e.getClass().getSimpleName();
        }
    }

    static void dueTold(String what, String got, String want) {
        checks++;
        if (!got.equals(want)) {
            tell(what + " answered " + got + ", due is " + want);
        }
    }

    /** The call throws just this exception, and leaves no trace: neither to be seen, nor in the saved states, nor in the numbers. */
    static void refused(String what, Class<?> want, Start start, Call call) {
        SleeperBerths x = start.make();
        String due = "throws." + want.getSimpleName();
        dueTold(what, told(x, call), due);
        dueTold(what + " once more", told(x, call), due);
        sameNow(what, x, start.make());
        sameSaved(what, x, start.make());
        SleeperBerths y = start.make();
        told(y, call);
        sameNext(what, y, start.make());
    }

    private static void sameNow(String what, SleeperBerths x, SleeperBerths twin) {
        due("digest() behind " + what, x.digest(), twin.digest());
        due("firstError() behind " + what, x.firstError(), twin.firstError());
    }

    private static void sameSaved(String what, SleeperBerths x, SleeperBerths twin) {
        int saved = twin.count(8);
        for (int left = saved; left > 0; left--) {
            dueTold("undo() behind " + what, told(x, SleeperBerths::undo), told(twin, SleeperBerths::undo));
            due("digest() behind undo() behind " + what, x.digest(), twin.digest());
        }
        dueTold("the last undo() behind " + what, told(x, SleeperBerths::undo), "throws.IllegalStateException");
    }

    /** The number of the next passenger is not in the digest, so one is booked; room is made first. */
    private static void sameNext(String what, SleeperBerths x, SleeperBerths twin) {
        for (SleeperBerths each : new SleeperBerths[] {x, twin}) {
            while (each.count(0) > 0) {
                each.cancel(each.passenger(0, 0));
            }
        }
        dueTold("book(0, 1, true) behind " + what, told(x, y -> y.book(0, 1, true)), told(twin, y -> y.book(0, 1, true)));
        due("digest() behind book(0, 1, true) behind " + what, x.digest(), twin.digest());
    }

    /** Prints what was found, and ends the program with 1 if something was wrong. */
    static void end(String name) {
        closeSentence();
        System.out.println(name + ": " + sentences + " sentences, " + (wrong == 0 ? "all hold" : wrong + " answers are not as due"));
        if (wrong != 0) {
            System.exit(1);
        }
    }
}
