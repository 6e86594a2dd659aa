/** The edges of what is TOLD and of SLOTS, sentence by sentence: the fourth part of the Terms, promises 33 to 38. */
public final class ToldEdgeTest {
    private static final Due due = new Due();
    private static final int LEAST = Integer.MIN_VALUE;
    private static final int MOST = Integer.MAX_VALUE;
    /** Two people, two plots, three witnesses, two givings. */
    private static final String LAND = "person a;person b;plot p 1 2 a;plot q 3 5 b;witness u 50 20;witness v 10 9;"
            + "witness w 70 30;giving p a b 3 u v;giving q b a 8 v;";
    private static final int[] NO_WITNESS = {LEAST, -33, -2, -1, 3, 6, 7, 32, 33, MOST};
    private static final int[] NO_SLOT = {LEAST, -33, -32, -31, -30, -2, -1, 3, 4, 31, 32, 33, 34, 35, 64, MOST};
    private static final int[] NO_WHAT = {LEAST, -2, -1, 2, 3, 32, 33, MOST};

    public static void main(String[] args) {
        tellFull();
        tellRefused();
        forget();
        whoSwearsNot();
        knownByK();
        which();
        whichNone();
        ask();
        askOrder();
        askNone();
        hold();
        holdNot();
        restoreStays();
        restoreNothingUndone();
        restoreRefused();
        notHeld();
        due.end();
    }

    private static void none(String what, int got) {
        due.is(what, got, -1);
    }

    private static TurfGiving livedIn() {
        TurfGiving x = Due.of(LAND + "dies = age / 4;seed 5;");
        x.unsay(1, true);
        x.hold(2);
        x.years(1);
        x.give(0, 1, 0, 0);
        x.tell(1, true);
        return x;
    }

    // ---- TOLD

    private static void tellFull() {
        due.sentence("20 at most, numbered from 0 on");
        TurfGiving x = Due.of(LAND);
        for (int number = 0; number < 20; number++) {
            due.is("told", x.count(11), number);
            due.is("tell", x.tell(number % 3, number % 2 == 0), number);
        }
        due.sentence("NONE, and nothing happens: 20 are there, no such WITNESS.");
        for (int witness = 0; witness < 3; witness++) {
            none("a 21st", x.tell(witness, true));
            none("a 21st", x.tell(witness, false));
        }
        due.is("told", x.count(11), 20);
        due.is("forget", x.forget(), 20);
        due.is("room again", x.tell(0, true), 0);
        TurfGiving y = full();
        y.tell(1, true);
        y.tell(2, false);
        due.is("nothing happens", Look.at(y), Look.at(full()));
    }

    /** Twenty that are so of the first GIVING alone: what would be told beyond them would show. */
    private static TurfGiving full() {
        TurfGiving x = Due.of(LAND);
        for (int number = 0; number < 20; number++) {
            x.tell(number % 2, true);
        }
        return x;
    }

    private static void tellRefused() {
        due.sentence("NONE, and nothing happens: 20 are there, no such WITNESS.");
        for (int witness : NO_WITNESS) {
            TurfGiving x = livedIn();
            none("witness " + witness, x.tell(witness, true));
            none("witness " + witness, x.tell(witness, false));
            due.is("nothing happens", Look.at(x), Look.at(livedIn()));
        }
        none("nobody there", new TurfGiving().tell(0, true));
        TurfGiving dead = Due.of(LAND + "dies = 100;");
        dead.years(1);
        due.is("of the dead it can be told", dead.tell(0, true), 0);
        due.is("the seventh", Due.of("witness a 1 1;witness b 1 1;witness c 1 1;witness d 1 1;witness e 1 1;witness f 1 1;witness g 1 1;")
                .tell(6, true), 0);
    }

    private static void forget() {
        due.sentence("All that was TOLD is forgotten: how many there were.");
        TurfGiving x = Due.of(LAND);
        for (int many = 0; many <= 20; many++) {
            for (int i = 0; i < many; i++) {
                x.tell(1, false);
            }
            due.is("forget", x.forget(), many);
            due.is("told", x.count(11), 0);
            due.is("none is known", x.which(0, 0), 2);
            none("none is known", x.which(1, 0));
            due.is("none is there", x.forget(), 0);
        }
        x.tell(1, false);
        x.forget();
        x.tell(0, true);
        due.is("not what was forgotten", x.which(1, 1), 1);
        x.forget();
        x.tell(1, true);
        x.forget();
        x.tell(1, false);
        due.is("the other way round", x.which(1, 1), 0);
        x.forget();
        for (int i = 0; i < 20; i++) {
            x.tell(1, true);
        }
        x.forget();
        for (int i = 0; i < 20; i++) {
            x.tell(2, i != 7);
        }
        x.forget();
        for (int i = 0; i < 20; i++) {
            x.tell(i == 19 ? 0 : 2, false);
            due.is("no, where there was a yes", x.which(i + 1, 1), i == 19 ? 2 : 3);
        }
        due.is("nothing told", new TurfGiving().forget(), 0);
    }

    private static void whoSwearsNot() {
        due.sentence("(who was not there, is dead, does not)");
        TurfGiving x = Due.of(LAND + "dies = if which < 1 then 100 else 0;");
        x.tell(2, false);
        due.is("w was at none", x.which(1, 1), 3);
        x.forget();
        x.tell(0, false);
        due.is("u was not at the second", x.which(1, 1), 2);
        x.forget();
        x.tell(1, false);
        due.is("v swears to both", x.which(1, 1), 0);
        x.years(1);
        due.is("v has forgotten the second", x.which(1, 1), 2);
        x.forget();
        x.tell(0, false);
        due.is("u is dead", x.which(1, 1), 3);
        x.forget();
        x.tell(0, true);
        due.is("u is dead", x.which(1, 1), 0);
        x.undo();
        due.is("u lives", x.which(1, 1), 1);
        due.sentence("that a WITNESS swears to a GIVING unknown now");
        x.unsay(0, true);
        due.is("unsaid: sworn to all the same", x.which(1, 1), 1);
        due.is("needs are no matter", many().which(1, 1), 1);
    }

    private static TurfGiving many() {
        TurfGiving x = Due.of(LAND + "needs 4;");
        x.tell(0, true);
        return x;
    }

    private static void knownByK() {
        due.sentence("KNOWN by k: the first k.");
        TurfGiving x = Due.of(LAND);
        // v swears to both, u to the first alone
        x.tell(1, true);
        x.tell(0, true);
        x.tell(2, false);
        x.tell(1, true);
        x.tell(0, false);
        int[] which = {3, 3, 1, 1, 1, 0};
        for (int k = 0; k <= 5; k++) {
            due.is("by " + k, x.which(k, 1), which[k]);
            due.is("by " + k, x.which(k, 0), Integer.bitCount(which[k]));
        }
        TurfGiving y = Due.of(LAND);
        for (int i = 0; i < 19; i++) {
            y.tell(1, true);
        }
        y.tell(0, false);
        due.is("by 19", y.which(19, 1), 3);
        due.is("by 20", y.which(20, 1), 2);
    }

    private static void which() {
        due.sentence("WHICH: GIVINGS of which all that is KNOWN is so: how many; which (bits).");
        due.is("no givings", new TurfGiving().which(0, 0), 0);
        due.is("no givings", new TurfGiving().which(0, 1), 0);
        TurfGiving x = Due.of(LAND);
        for (int number = 2; number < 20; number++) {
            x.give(0, 1, 0, number % 2 == 0 ? 4 : 0);
        }
        due.is("twenty", x.which(0, 0), 20);
        due.is("twenty", x.which(0, 1), 0xfffff);
        x.tell(2, true);
        due.is("w", x.which(1, 1), 0x55554);
        due.is("w", x.which(1, 0), 9);
        x.tell(2, false);
        due.is("yes and no", x.which(2, 1), 0);
        x.undo();
        due.is("nineteen", x.which(0, 0), 19);
    }

    private static void whichNone() {
        due.sentence("WHICH, as KNOWN by k: what 0 how many, 1 which (bits); NONE: no such ones.");
        TurfGiving x = Due.of(LAND);
        for (int told = 0; told <= 20; told++) {
            due.is("by all", x.which(told, 1) >= 0, true);
            none("by one more", x.which(told + 1, 0));
            none("by one more", x.which(told + 1, 1));
            x.tell(0, true);
        }
        for (int k : new int[] {LEAST, -2, -1, 21, 32, MOST}) {
            none("k " + k, x.which(k, 0));
            none("k " + k, x.which(k, 1));
        }
        for (int what : NO_WHAT) {
            none("what " + what, x.which(0, what));
            none("what " + what, x.which(20, what));
        }
    }

    private static void ask() {
        due.sentence("ASK: the WITNESS of whom, once it is told, fewest are left, at worst; of alike ones the first.");
        TurfGiving x = Due.of(LAND);
        due.is("u: one or one; v: both or none", x.ask(0), 0);
        x.tell(0, true);
        due.is("one is left, whoever is asked", x.ask(1), 0);
        TurfGiving y = Due.of("person a;person b;plot p 1 1 a;witness u 1 99;witness v 1 99;witness w 1 99;"
                + "giving p a b 1 u;giving p a b 1 u w;giving p a b 1 u v w;giving p a b 1 u;giving p a b 1;");
        // of five: u 4 or 1, v 1 or 4, w 2 or 3
        due.is("at worst three", y.ask(0), 2);
        y.tell(2, false);
        // of 0, 3, 4: u 2 or 1, v none or 3, w none or 3
        due.is("at worst two", y.ask(1), 0);
        due.is("by 0 still", y.ask(0), 2);
    }

    private static void askOrder() {
        due.sentence("at worst; of alike ones the first");
        String two = "person a;person b;plot p 1 1 a;witness u 90 99;witness v 1 99;witness w 1 99;giving p a b 1 v w;giving p a b 1;";
        due.is("v, w alike", Due.of(two).ask(0), 1);
        due.is("none helps", Due.of(two + "swears = 0;").ask(0), 0);
        TurfGiving dead = Due.of(two + "dies = if which < 1 then 100 else 0;");
        dead.years(1);
        due.is("v, w alike", dead.ask(0), 1);
        TurfGiving all = Due.of(two + "dies = 100;");
        all.years(1);
        due.is("all dead: alike", all.ask(0), 0);
        TurfGiving twenty = Due.of(two + "swears = 0;");
        for (int number = 2; number < 20; number++) {
            twenty.give(0, 0, 1, 7);
        }
        due.is("none helps, of twenty", twenty.ask(0), 0);
        due.is("one giving", Due.of(two.substring(0, two.length() - 15)).ask(0), 0);
    }

    private static void askNone() {
        due.sentence("ASK, as KNOWN by k; -2: none is left, no WITNESSES; NONE: no such k.");
        TurfGiving x = Due.of(LAND);
        x.tell(2, true);
        due.is("none is left", x.ask(1), -2);
        due.is("both are left", x.ask(0), 0);
        due.is("no givings", Due.of("witness w 1 1;").ask(0), -2);
        due.is("no witnesses", Due.of("person a;person b;plot p 1 1 a;giving p a b 1;").ask(0), -2);
        due.is("nothing", new TurfGiving().ask(0), -2);
        for (int k : new int[] {LEAST, -2, -1, 2, 3, 20, 32, MOST}) {
            none("k " + k, x.ask(k));
            none("nothing, k " + k, new TurfGiving().ask(k));
        }
        for (int told = 1; told < 20; told++) {
            none("by one more", x.ask(told + 1));
            x.tell(0, true);
        }
        due.is("by 20", x.ask(20), -2);
        none("by 21", x.ask(21));
    }

    // ---- SLOTS

    private static void hold() {
        due.sentence("is held in a SLOT (0 .. 2): true; false: no such one.");
        TurfGiving x = livedIn();
        for (int slot = 0; slot < 3; slot++) {
            due.is("hold " + slot, x.hold(slot), true);
            due.is("again", x.hold(slot), true);
        }
        due.is("slots", x.count(12), 3);
        due.is("a new object too", new TurfGiving().hold(0), true);
        due.is("no thing done", x.count(10), 3);
        // each slot has its own
        TurfGiving y = Due.of(LAND);
        for (int slot = 0; slot < 3; slot++) {
            y.years(slot + 1);
            y.unsay(1, slot % 2 == 0);
            y.hold(slot);
        }
        int[] years = {1, 3, 6};
        for (int slot : new int[] {2, 0, 1, 0, 2}) {
            due.is("restore " + slot, y.restore(slot), true);
            due.is("year", y.count(4), years[slot]);
            due.is("unsaid", y.count(8), slot % 2 == 0 ? 2 : 0);
            due.is("age", y.witness(0, 0), 50 + years[slot]);
        }
    }

    private static void holdNot() {
        due.sentence("is held in a SLOT (0 .. 2): true; false: no such one.");
        for (int slot : NO_SLOT) {
            TurfGiving x = livedIn();
            due.is("hold " + slot, x.hold(slot), false);
            due.is("nothing happens", Look.at(x), Look.at(livedIn()));
        }
    }

    private static void restoreStays() {
        due.sentence("It goes on from what a SLOT holds (that stays there; nothing can be undone then): true");
        TurfGiving x = Due.of(LAND);
        x.give(0, 1, 0, 5);
        x.years(2);
        x.hold(1);
        for (int i = 0; i < 3; i++) {
            x.years(4);
            x.give(1, 0, 1, 4);
            x.unsay(0, true);
            due.is("restore", x.restore(1), true);
            due.is("slots", x.count(12), 1);
            due.is("year", x.count(4), 2);
            due.is("givings", x.count(3), 3);
            due.is("said", x.count(8), 0);
            due.is("plot", x.giving(2, 0), 0);
            due.is("ago", x.giving(2, 3), 2);
            due.is("before", x.giving(2, 4), 5);
        }
        // a GIVING that is undone and another one in its place: the slot has the first
        TurfGiving y = Due.of(LAND);
        y.give(0, 1, 0, 5);
        y.hold(0);
        y.undo();
        y.years(1);
        y.give(1, 0, 1, 4);
        y.restore(0);
        due.is("plot", y.giving(2, 0), 0);
        due.is("before", y.giving(2, 4), 5);
        due.is("ago", y.giving(2, 3), 0);
        y.restore(0);
        y.give(1, 0, 1, 2);
        y.restore(0);
        due.is("givings", y.count(3), 3);
        none("a fourth", y.giving(3, 0));
        // the dead live again
        TurfGiving z = Due.of(LAND + "dies = 100;");
        z.hold(2);
        z.years(1);
        due.is("dead", z.count(5), 0);
        z.restore(2);
        due.is("alive", z.count(5), 7);
        due.is("give", z.give(0, 0, 1, 7), 2);
    }

    private static void restoreNothingUndone() {
        due.sentence("It goes on from what a SLOT holds (that stays there; nothing can be undone then): true");
        TurfGiving x = Due.of(LAND);
        x.years(1);
        x.hold(0);
        x.years(1);
        due.is("two things", x.count(10), 2);
        x.restore(0);
        due.is("none", x.count(10), 0);
        due.is("undo", x.undo(), false);
        due.is("year", x.count(4), 1);
        x.years(3);
        due.is("one thing", x.count(10), 1);
        due.is("undo", x.undo(), true);
        due.is("year", x.count(4), 1);
        due.is("undo", x.undo(), false);
        // what was undone in between does not matter, either
        for (int i = 0; i < 40; i++) {
            x.years(1);
        }
        x.restore(0);
        due.is("none", x.count(10), 0);
        for (int i = 0; i < 40; i++) {
            x.years(1);
        }
        due.is("thirty", x.count(10), 30);
    }

    private static void restoreRefused() {
        due.sentence("false, and nothing happens: no such one, nothing is held.");
        for (int slot : NO_SLOT) {
            TurfGiving x = livedIn();
            due.is("restore " + slot, x.restore(slot), false);
            due.is("nothing happens", Look.at(x), Look.at(livedIn()));
        }
        for (int slot : NO_SLOT) {
            TurfGiving x = allHeld();
            due.is("restore " + slot, x.restore(slot), false);
            due.is("hold " + slot, x.hold(slot), false);
            due.is("nothing happens", Look.at(x), Look.at(allHeld()));
        }
        for (int slot = 0; slot < 2; slot++) {
            TurfGiving x = livedIn();
            due.is("nothing held in " + slot, x.restore(slot), false);
            due.is("nothing happens", Look.at(x), Look.at(livedIn()));
        }
        for (int slot = 0; slot < 3; slot++) {
            due.is("new object", new TurfGiving().restore(slot), false);
        }
        TurfGiving y = livedIn();
        due.is("held", y.restore(2), true);
        due.is("a right text", Due.read(y, LAND), 0);
        due.is("held no more", y.restore(2), false);
    }

    private static TurfGiving allHeld() {
        TurfGiving x = livedIn();
        x.hold(0);
        x.years(2);
        x.hold(1);
        x.years(3);
        x.hold(2);
        x.unsay(0, true);
        return x;
    }

    private static void notHeld() {
        due.sentence("All that goes on (not what is TOLD, nor the tape) is held");
        TurfGiving x = Due.of(LAND);
        x.tell(0, true);
        Due.feed(x, Due.bytes("person"));
        x.hold(0);
        x.tell(1, false);
        x.tell(2, false);
        x.back(2);
        x.restore(0);
        due.is("told", x.count(11), 3);
        due.is("tape", x.count(9), 4);
        x.forget();
        x.back(4);
        x.restore(0);
        due.is("told", x.count(11), 0);
        due.is("tape", x.count(9), 0);
    }
}
