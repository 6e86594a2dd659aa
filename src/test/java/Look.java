/**
 * All that an object of a small land tells of itself, in 500 calls at most. The last of them go back through what can be
 * undone and through the SLOTS, so that an object that was looked at is no more of use.
 */
final class Look {
    private Look() {
    }

    static String at(TurfGiving x) {
        StringBuilder seen = new StringBuilder();
        seen.append("place ").append(x.place());
        now(x, seen);
        would(x, seen);
        told(x, seen);
        for (int i = 0; i < 31 && x.undo(); i++) {
            seen.append(" undone");
            counts(x, seen);
        }
        for (int slot = 0; slot < 3; slot++) {
            seen.append(" slot ").append(x.restore(slot));
            counts(x, seen);
        }
        return seen.toString();
    }

    private static void counts(TurfGiving x, StringBuilder seen) {
        for (int what : new int[] {3, 4, 5, 6, 8, 10, 12}) {
            seen.append(' ').append(x.count(what));
        }
    }

    private static void now(TurfGiving x, StringBuilder seen) {
        seen.append(" counts");
        for (int what = 0; what <= 15; what++) {
            seen.append(' ').append(x.count(what));
        }
        for (int plot = 0; plot < x.count(1); plot++) {
            seen.append(" plot");
            for (int what = 0; what <= 4; what++) {
                seen.append(' ').append(x.plot(plot, what));
            }
            seen.append(" asks ").append(x.asks(plot)).append(" walk ").append(x.walk(0, plot));
        }
        for (int witness = 0; witness < x.count(2); witness++) {
            seen.append(" witness");
            for (int what = 0; what <= 4; what++) {
                seen.append(' ').append(x.witness(witness, what));
            }
        }
        for (int giving = 0; giving < x.count(3); giving++) {
            seen.append(" giving");
            for (int what = 0; what <= 8; what++) {
                seen.append(' ').append(x.giving(giving, what));
            }
        }
    }

    private static void would(TurfGiving x, StringBuilder seen) {
        seen.append(" book ").append(x.book());
        seen.append(" hangs ").append(x.hangs(0)).append(' ').append(x.hangs(1));
        seen.append(" cover ").append(x.cover(3, -1));
        seen.append(" eldest ").append(x.eldest(0));
        seen.append(" weakest ").append(x.weakest(0));
        seen.append(" rich ").append(x.rich(9, 0)).append(' ').append(x.rich(9, 1));
        seen.append(" lapse ").append(x.lapse(9));
        seen.append(" year ").append(x.year(0, 0, 9, 9));
        for (int plot = 0; plot < x.count(1); plot++) {
            seen.append(" passes ").append(x.passes(plot));
        }
    }

    private static void told(TurfGiving x, StringBuilder seen) {
        for (int k = 0; k <= x.count(11); k++) {
            seen.append(" which ").append(x.which(k, 1)).append(" ask ").append(x.ask(k));
        }
    }
}
