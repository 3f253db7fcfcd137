/**
 * The digest by the document's list, from the answers of the other calls and the text that the buffer must hold.
 * Each part asks an object of its own, as an object is used for at most 512 calls.
 */
final class Digests {
    private Digests() {
    }

    static long of(Check.Start start, String buffer) {
        long hash = numbers(2999, start.make());
        hash = holders(hash, start.make());
        hash = passengers(hash, start.make());
        hash = ways(hash, start.make());
        hash = 31 * hash + buffer.length();
        for (int index = 0; index < buffer.length(); index++) {
            hash = 31 * hash + buffer.charAt(index);
        }
        return hash;
    }

    private static long numbers(long begin, SleeperBerths x) {
        long hash = begin;
        for (int what = 0; what <= 8; what++) {
            hash = 31 * hash + x.count(what);
        }
        for (int setting = 0; setting <= 2; setting++) {
            hash = 31 * hash + x.setting(setting);
        }
        for (int coach = 0; coach <= 2; coach++) {
            hash = 31 * hash + x.goesTo(coach);
        }
        return hash;
    }

    private static long holders(long begin, SleeperBerths x) {
        long hash = begin;
        for (int berth = 0; berth <= 17; berth++) {
            for (int leg = 0; leg <= 8; leg++) {
                hash = 31 * hash + x.holder(berth, leg);
            }
        }
        return hash;
    }

    private static long passengers(long begin, SleeperBerths x) {
        long hash = begin;
        int passengers = x.count(0);
        for (int place = 0; place < passengers; place++) {
            for (int what = 0; what <= 8; what++) {
                hash = 31 * hash + x.passenger(place, what);
            }
        }
        return hash;
    }

    private static long ways(long begin, SleeperBerths x) {
        long hash = begin;
        for (int leg = 0; leg <= 8; leg++) {
            hash = 31 * (31 * hash + x.free(leg, 0)) + x.free(leg, 1);
        }
        for (int station = 0; station <= 8; station++) {
            hash = 31 * (31 * hash + x.farthest(station)) + x.whyNot(station, 9);
        }
        for (int what = 0; what <= 3; what++) {
            hash = 31 * hash + x.ifBooked(1, 8, false, what);
        }
        return 31 * hash + Double.doubleToLongBits(x.fullness());
    }
}
