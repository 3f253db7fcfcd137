/** States to begin with, and short ways to come to them. */
final class States {
    private States() {
    }

    /** Books one who has not paid through and puts the passenger in the berth, which must be free on the way. */
    static int seat(SleeperBerths x, int from, int to, int berth) {
        int number = x.book(from, to, false);
        x.place(number, berth);
        return number;
    }

    static void write(SleeperBerths x, String text) {
        for (int index = 0; index < text.length(); index++) {
            x.append(text.charAt(index));
        }
    }

    static SleeperBerths written(String text) {
        SleeperBerths x = new SleeperBerths();
        write(x, text);
        return x;
    }

    static void bookTimes(SleeperBerths x, int times, int from, int to) {
        for (int time = 0; time < times; time++) {
            x.book(from, to, true);
        }
    }

    static void night(SleeperBerths x, int first, int last) {
        x.set(0, first);
        x.set(1, last);
    }

    /**
     * Each berth has one passenger from 0 to 9, but for those that are told: "4: 0-2 5-9" has passengers on these ways in
     * berth 4, and "7:" has none. Seated in the order of the berths, so the numbers go up with them.
     */
    static SleeperBerths berths(String... told) {
        SleeperBerths x = new SleeperBerths();
        for (int berth = 0; berth < 18; berth++) {
            for (String way : waysOf(berth, told).trim().split(" ")) {
                if (!way.isEmpty()) {
                    seat(x, way.charAt(0) - '0', way.charAt(2) - '0', berth);
                }
            }
        }
        return x;
    }

    private static String waysOf(int berth, String... told) {
        for (String plan : told) {
            if (plan.startsWith(berth + ":")) {
                return plan.substring(plan.indexOf(':') + 1);
            }
        }
        return "0-9";
    }

    /** As berths(), but without a night. */
    static SleeperBerths byDay(String... told) {
        SleeperBerths x = berths(told);
        night(x, 9, 0);
        return x;
    }

    /** All berths on all legs. */
    static SleeperBerths full() {
        SleeperBerths x = new SleeperBerths();
        bookTimes(x, 18, 0, 9);
        return x;
    }

    /** So many passengers, at most 40, and no berth is had on the legs 3 to 8. */
    static SleeperBerths crowd(int passengers) {
        SleeperBerths x = new SleeperBerths();
        bookTimes(x, Math.min(18, passengers), 0, 1);
        bookTimes(x, Math.max(0, Math.min(18, passengers - 18)), 1, 2);
        bookTimes(x, Math.max(0, passengers - 36), 2, 3);
        return x;
    }

    /** The passenger 0 has not paid through, the passenger 1 has. */
    static SleeperBerths crowdOfTwo() {
        SleeperBerths x = new SleeperBerths();
        x.book(2, 6, false);
        x.book(0, 9, true);
        return x;
    }

    static SleeperBerths forty() {
        return crowd(40);
    }

    /** One passenger, the number 18, who changes from berth 0 to berth 2 at station 4, by day, and is not woken. */
    static SleeperBerths withOneWhoChanges() {
        SleeperBerths x = byDay("0: 4-9", "2: 0-4");
        x.book(0, 9, false);
        return x;
    }

    /** Some of all: a buffer, cut coaches, one gone, one who changes, one left out, and saved states. */
    static SleeperBerths mixed() {
        SleeperBerths x = withOneWhoChanges();
        x.cancel(17);
        x.cut(2, 9);
        write(x, "0-9!;0-9!;0-9");
        x.bookAll();
        x.cancel(16);
        x.book(3, 7, true);
        x.set(2, 12);
        write(x, "3-4!;2");
        return x;
    }

    /** The berth beside, in the same compartment. */
    static int beside(int berth) {
        return berth % 2 == 0 ? berth + 1 : berth - 1;
    }
}
