/** Promises 33 to 38 and the fourth part of the Terms: what is TOLD, and what SLOTS hold. */
public final class ToldTest {
    private static final String LAND = "person ann;person bob;person cid;plot acre 0 0 ann;plot glebe 3 0 bob;"
            + "plot mead 3 4 ann;witness wat 60 30;witness nel 8 12;witness jon 30 5;giving acre ann bob 10 wat nel;"
            + "giving acre bob cid 4 jon;giving mead bob cid 2 wat;giving glebe bob ann 20 nel;";
    private static final Due due = new Due();

    public static void main(String[] args) {
        tell();
        forget();
        which();
        whichNow();
        ask();
        askOfTheDead();
        hold();
        restore();
        holdKeepsGivings();
        notHeld();
        due.end();
    }

    private static void none(String what, int got) {
        due.is(what, got, -1);
    }

    private static void tell() {
        TurfGiving x = Due.of(LAND);
        none("witness 3", x.tell(3, true));
        none("witness -1", x.tell(-1, true));
        for (int i = 0; i < 20; i++) {
            due.is("tell", x.tell(0, true), i);
        }
        none("a 21st", x.tell(0, true));
        due.is("told", x.count(11), 20);
        due.is("by 20", x.which(20, 1), 5);
        none("by 21", x.which(21, 1));
        due.is("no thing done", x.undo(), false);
        none("nobody to tell", new TurfGiving().tell(0, true));
    }

    private static void forget() {
        TurfGiving x = Due.of(LAND);
        due.is("none", x.forget(), 0);
        x.tell(0, true);
        x.tell(1, true);
        due.is("two", x.forget(), 2);
        due.is("told", x.count(11), 0);
        none("by 1", x.which(1, 0));
        due.is("anew", x.tell(0, false), 0);
        due.is("not what was told ahead", x.which(1, 1), 10);
        due.is("one", x.forget(), 1);
        due.is("none", x.forget(), 0);
    }

    private static void which() {
        TurfGiving x = Due.of(LAND);
        x.tell(0, true);
        x.tell(1, false);
        x.tell(2, true);
        int[][] rows = {{4, 15}, {2, 5}, {1, 4}, {0, 0}};
        for (int k = 0; k < rows.length; k++) {
            due.is("how many by " + k, x.which(k, 0), rows[k][0]);
            due.is("which by " + k, x.which(k, 1), rows[k][1]);
        }
        none("by 4", x.which(4, 0));
        none("by -1", x.which(-1, 0));
        none("what 2", x.which(0, 2));
        none("what -1", x.which(0, -1));
        due.is("nothing told", new TurfGiving().which(0, 0), 0);
        due.is("nothing told", new TurfGiving().which(0, 1), 0);
        none("nothing told", new TurfGiving().which(1, 0));
    }

    /** What is KNOWN is looked at as it is now: who was there, lives and still swears. */
    private static void whichNow() {
        TurfGiving x = Due.of(LAND + "dies = if age < 61 then 0 else 100;");
        x.tell(1, true);
        x.tell(0, true);
        due.is("nel", x.which(1, 1), 1);
        x.unsay(0, true);
        due.is("unsaid all the same", x.which(1, 1), 1);
        x.years(1);
        due.is("nel", x.which(2, 1), 1);
        x.years(1);
        due.is("nel has forgotten", x.which(1, 1), 0);
        x.forget();
        x.tell(0, false);
        due.is("wat is dead", x.which(1, 1), 15);
        x.give(0, 0, 1, 2);
        due.is("a new one, too", x.which(1, 1), 31);
        x.tell(1, true);
        due.is("a new one", x.which(2, 1), 16);
    }

    private static void ask() {
        TurfGiving x = Due.of(LAND);
        due.is("wat halves", x.ask(0), 0);
        x.tell(0, true);
        due.is("nel", x.ask(1), 1);
        x.tell(1, false);
        due.is("of alike ones the first", x.ask(2), 0);
        x.tell(2, true);
        due.is("none is left", x.ask(3), -2);
        due.is("by 2 still", x.ask(2), 0);
        none("by 4", x.ask(4));
        none("by -1", x.ask(-1));
        due.is("nothing told", new TurfGiving().ask(0), -2);
        none("nothing told", new TurfGiving().ask(1));
        due.is("no witnesses", Due.of("person a;person b;plot p 0 0 a;giving p a b 1;").ask(0), -2);
        TurfGiving y = Due.of("person a;person b;plot p 0 0 a;witness u 1 99;witness v 1 99;giving p a b 1 u;"
                + "giving p a b 1 u;giving p a b 1 u v;giving p a b 1 u v;giving p a b 1 v;");
        // u: 4 or 1 are left; v: 3 or 2
        due.is("at worst", y.ask(0), 1);
    }

    private static void askOfTheDead() {
        TurfGiving x = Due.of("person a;person b;plot p 0 0 a;witness u 90 99;witness v 1 99;giving p a b 1 u;"
                + "giving p a b 1 u v;dies = age * 2 - 100;");
        due.is("v halves", x.ask(0), 1);
        x.tell(1, false);
        due.is("alike", x.ask(1), 0);
        x.years(1);
        due.is("u is dead, v halves", x.ask(0), 1);
        due.is("alike, the dead too", x.ask(1), 0);
    }

    private static void hold() {
        TurfGiving x = Due.of(LAND);
        due.is("slot -1", x.hold(-1), false);
        due.is("slot 3", x.hold(3), false);
        due.is("slots", x.count(12), 0);
        due.is("slot 0", x.hold(0), true);
        due.is("slot 2", x.hold(2), true);
        due.is("slots", x.count(12), 2);
        due.is("slot 0 again", x.hold(0), true);
        due.is("slots", x.count(12), 2);
        due.is("no thing done", x.count(10), 0);
        TurfGiving y = new TurfGiving();
        due.is("nothing told", y.hold(1), true);
        y.years(3);
        due.is("nothing told", y.restore(1), true);
        due.is("year", y.count(4), 0);
    }

    private static void restore() {
        TurfGiving x = Due.of(LAND + "dies = 20;seed 7;");
        due.is("nothing held", x.restore(0), false);
        due.is("slot -1", x.restore(-1), false);
        due.is("slot 3", x.restore(3), false);
        x.years(1);
        x.hold(0);
        x.unsay(1, true);
        x.years(1);
        x.hold(1);
        due.is("nothing held", x.restore(2), false);
        due.is("things done", x.count(10), 3);
        due.is("restore", x.restore(0), true);
        due.is("year", x.count(4), 1);
        due.is("alive", x.count(5), 5);
        due.is("unsaid", x.count(8), 0);
        due.is("age", x.witness(0, 0), 61);
        due.is("nothing can be undone", x.undo(), false);
        x.years(5);
        due.is("restore", x.restore(1), true);
        due.is("year", x.count(4), 2);
        due.is("alive", x.count(5), 1);
        due.is("unsaid", x.count(8), 2);
        due.is("it stays there", x.restore(1), true);
        due.is("slots", x.count(12), 2);
        x.hold(0);
        x.years(1);
        x.restore(0);
        due.is("the latest held", x.count(4), 2);
    }

    /** A slot keeps its own GIVINGS, also if others by hand come in their place. */
    private static void holdKeepsGivings() {
        TurfGiving x = Due.of(LAND);
        x.give(0, 2, 0, 1);
        x.hold(1);
        x.undo();
        x.give(1, 1, 2, 6);
        due.is("another one", x.giving(4, 4), 6);
        x.restore(1);
        due.is("givings", x.count(3), 5);
        due.is("plot", x.giving(4, 0), 0);
        due.is("from", x.giving(4, 1), 2);
        due.is("to", x.giving(4, 2), 0);
        due.is("before", x.giving(4, 4), 1);
        x.years(3);
        x.give(1, 1, 2, 6);
        x.hold(0);
        x.restore(1);
        due.is("givings", x.count(3), 5);
        x.restore(0);
        due.is("ago", x.giving(4, 3), 3);
        due.is("ago", x.giving(5, 3), 0);
    }

    /** What is TOLD and the tape go on as they are. */
    private static void notHeld() {
        TurfGiving x = Due.of(LAND);
        x.tell(0, true);
        x.hold(0);
        x.tell(1, true);
        x.feed(0, 0, 0, 0, 0);
        x.years(1);
        x.restore(0);
        due.is("told", x.count(11), 2);
        due.is("tape", x.count(9), 20);
        x.years(1);
        x.undo();
        due.is("undone is not what is told", x.count(11), 2);
        due.is("a wrong text", x.read(), 1);
        due.is("the slot stays", x.count(12), 1);
        due.is("told stays", x.count(11), 2);
    }
}
