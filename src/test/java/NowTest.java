/** Promises 6 to 12 and 39, and the second part of the Terms: LAWS, what stands now, what is done by hand. */
public final class NowTest {
    private static final String LAND = "person ann;person bob;person cid;plot acre 0 0 ann;plot glebe 3 0 bob;"
            + "plot mead 3 4 ann;witness wat 60 30;witness nel 8 12;witness jon 30 5;giving acre ann bob 10 wat nel;"
            + "giving acre bob cid 4 jon;giving mead bob cid 2 wat;giving glebe bob ann 20 nel;";
    private static final Due due = new Due();

    public static void main(String[] args) {
        plot();
        witness();
        giving();
        give();
        giveLimits();
        unsay();
        years();
        deaths();
        oldest();
        undo();
        undoLimit();
        count();
        lawReckoning();
        lawBranches();
        lawVars();
        lawsHeld();
        order();
        due.end();
    }

    private static void none(String what, int got) {
        due.is(what, got, -1);
    }

    private static void plot() {
        TurfGiving x = Due.of(LAND);
        int[][] rows = {{0, 0, 0, 2, 2}, {3, 0, 1, 1, 0}, {3, 4, 0, 0, 0}};
        for (int plot = 0; plot < 3; plot++) {
            for (int what = 0; what < 5; what++) {
                due.is("plot " + plot + " " + what, x.plot(plot, what), rows[plot][what]);
            }
        }
        none("plot 3", x.plot(3, 0));
        none("plot -1", x.plot(-1, 0));
        none("plot least", x.plot(Integer.MIN_VALUE, 3));
        none("what 5", x.plot(0, 5));
        none("what -1", x.plot(0, -1));
        x.years(1);
        due.is("jon swears no more", x.plot(0, 3), 1);
        due.is("counts", x.plot(0, 4), 1);
        due.is("at first", x.plot(0, 2), 0);
    }

    private static void witness() {
        TurfGiving x = Due.of(LAND + "dies = age + which * 100 - 40;");
        int[][] rows = {{60, 30, 1, 2, 20}, {8, 12, 1, 1, 68}, {30, 5, 1, 1, 100}};
        for (int witness = 0; witness < 3; witness++) {
            for (int what = 0; what < 5; what++) {
                due.is("witness " + witness + " " + what, x.witness(witness, what), rows[witness][what]);
            }
        }
        none("witness 3", x.witness(3, 0));
        none("witness -1", x.witness(-1, 0));
        none("what 5", x.witness(0, 5));
        none("what -1", x.witness(0, -1));
        x.years(2);
        due.is("as it died", x.witness(2, 0), 30);
        due.is("dead", x.witness(2, 2), 0);
        due.is("the dead swear not", x.witness(2, 3), 0);
        due.is("memory stays", x.witness(2, 1), 5);
        due.is("dies tells of the dead too", x.witness(2, 4), 100);
    }

    private static void giving() {
        TurfGiving x = Due.of(LAND);
        int[][] rows = {{0, 0, 1, 10, 3, 3, 1, 1, 0}, {0, 1, 2, 4, 4, 4, 1, 1, 0}, {2, 1, 2, 2, 1, 1, 1, 0, 0},
            {1, 1, 0, 20, 2, 0, 0, 0, 0}};
        for (int giving = 0; giving < 4; giving++) {
            for (int what = 0; what < 9; what++) {
                due.is("giving " + giving + " " + what, x.giving(giving, what), rows[giving][what]);
            }
        }
        none("giving 4", x.giving(4, 0));
        none("giving -1", x.giving(-1, 0));
        none("what 9", x.giving(0, 9));
        none("what -1", x.giving(0, -1));
        x.years(2);
        due.is("two years more ago", x.giving(0, 3), 12);
        due.is("nel remembers no more", x.giving(0, 5), 1);
        x.unsay(0, true);
        due.is("unsaid", x.giving(0, 8), 1);
        due.is("sworn to all the same", x.giving(0, 5), 1);
        due.is("stands not", x.giving(0, 6), 0);
        due.is("counts not", x.giving(0, 7), 0);
    }

    private static void give() {
        TurfGiving x = Due.of(LAND);
        x.years(3);
        due.is("give", x.give(2, 0, 2, 5), 4);
        int[] row = {2, 0, 2, 0, 5, 5, 1, 1, 0};
        for (int what = 0; what < 9; what++) {
            due.is("given " + what, x.giving(4, what), row[what]);
        }
        due.is("whose", x.plot(2, 3), 2);
        due.is("given by one whose it is not", x.give(2, 1, 0, 1), 5);
        due.is("idle", x.giving(5, 7), 0);
        due.is("before nobody", x.give(2, 2, 1, 0), 6);
        due.is("stands not", x.giving(6, 6), 0);
        none("plot", x.give(3, 0, 1, 1));
        none("plot", x.give(-1, 0, 1, 1));
        none("from", x.give(0, 3, 1, 1));
        none("from", x.give(0, -1, 1, 1));
        none("to", x.give(0, 0, 3, 1));
        none("to", x.give(0, 0, -1, 1));
        none("to himself", x.give(0, 1, 1, 1));
        none("set", x.give(0, 0, 1, 8));
        none("set", x.give(0, 0, 1, -1));
        none("set", x.give(0, 0, 1, Integer.MIN_VALUE));
        due.is("givings", x.count(3), 7);
        due.is("things done", x.count(10), 4);
        x.years(4);
        due.is("years ago", x.giving(4, 3), 4);
        due.is("jon has forgotten", x.giving(4, 5), 5);
        x.years(1);
        due.is("jon has forgotten", x.giving(4, 5), 1);
    }

    private static void giveLimits() {
        TurfGiving x = Due.of("person a;person b;plot p 0 0 a;witness w 50 50;witness v 70 50;dies = age * 2 - 100;"
                + "giving p a b 1 w;");
        x.years(50);
        due.is("both dead", x.count(5), 0);
        due.is("not alive", x.give(0, 0, 1, 1), -2);
        due.is("not alive", x.give(0, 0, 1, 3), -2);
        none("no such one though not alive", x.give(0, 0, 0, 1));
        due.is("nothing happened", x.count(3), 1);
        for (int i = 1; i < 20; i++) {
            due.is("give", x.give(0, i & 1, 1 - (i & 1), 0), i);
        }
        due.is("a 21st", x.give(0, 0, 1, 0), -2);
        none("a 21st to himself", x.give(0, 0, 0, 0));
        none("a 21st before no such one", x.give(0, 0, 1, 4));
        due.is("givings", x.count(3), 20);
        due.is("unsay the 20th", x.unsay(19, true), true);
        due.is("bits", x.count(8), 1 << 19);
        x.undo();
        x.undo();
        due.is("room again", x.give(0, 0, 1, 0), 19);
    }

    private static void unsay() {
        TurfGiving x = Due.of(LAND);
        due.is("said again", x.unsay(0, false), false);
        due.is("unsay", x.unsay(0, true), true);
        due.is("unsay", x.unsay(0, true), false);
        due.is("whose", x.plot(0, 3), 0);
        due.is("bits", x.count(8), 1);
        due.is("things done", x.count(10), 1);
        due.is("said again", x.unsay(0, false), true);
        due.is("whose", x.plot(0, 3), 2);
        due.is("things done", x.count(10), 2);
        due.is("giving 4", x.unsay(4, true), false);
        due.is("giving -1", x.unsay(-1, true), false);
        due.is("giving -1", x.unsay(-1, false), false);
        due.is("things done", x.count(10), 2);
    }

    private static void years() {
        TurfGiving x = Due.of(LAND);
        due.is("years 0", x.years(0), 0);
        due.is("no thing done", x.undo(), false);
        due.is("years 1", x.years(1), 1);
        due.is("years 60", x.years(60), 61);
        none("years 61", x.years(61));
        none("years -1", x.years(-1));
        none("years most", x.years(Integer.MAX_VALUE));
        due.is("year", x.count(4), 61);
        due.is("age", x.witness(0, 0), 121);
        due.is("things done", x.count(10), 2);
        due.is("years 0", x.years(0), 61);
    }

    /** The lots of SEED 7 for WITNESSES 0 .. 2, year by year: 62 3 94, 68 44 19, 59 90 65, 49 83 50, 24 49 32. */
    private static void deaths() {
        String three = "witness u 10 1;witness v 20 1;witness w 30 1;seed 7;";
        TurfGiving x = Due.of(three + "dies = 3;");
        x.years(5);
        due.is("3 is not less than 3", x.count(5), 7);
        x = Due.of(three + "dies = 4;");
        x.years(1);
        due.is("3 is less than 4", x.count(5), 5);
        due.is("dead", x.witness(1, 0), 20);
        due.is("alive", x.witness(0, 0), 11);
        x = Due.of(three + "dies = 20;");
        x.years(1);
        due.is("year 1", x.count(5), 5);
        x.years(1);
        due.is("year 2", x.count(5), 1);
        due.is("a year older", x.witness(2, 0), 31);
        x.years(2);
        due.is("year 4", x.count(5), 1);
        x = Due.of(three + "dies = 25;");
        x.years(5);
        due.is("24 is less than 25", x.count(5), 0);
        due.is("four years older", x.witness(0, 0), 14);
        x = Due.of("witness u 10 1;seed 7;dies = if age < 12 then 0 else 60;");
        x.years(2);
        due.is("the age as it is", x.count(5), 1);
        x.years(1);
        due.is("59 is less than 60", x.count(5), 0);
        x = Due.of("witness u 10 1;seed 7;dies = if year < 2 then 0 else 60;");
        due.is("the year as it is", x.then(0, 2, 1), 1);
        due.is("the year as it is", x.then(0, 3, 1), 0);
        x = Due.of("witness u 10 1;witness v 10 1;witness w 10 1;dies = 3;");
        x.years(1);
        due.is("seed 0: 2 is less than 3", x.count(5), 6);
        x = Due.of("witness u 10 1;witness v 10 1;witness w 10 1;dies = 2;seed 9999;");
        x.years(2);
        due.is("seed 9999: 1 is less than 2", x.count(5), 3);
    }

    private static void oldest() {
        TurfGiving x = Due.of("witness u 99 1;");
        for (int i = 0; i < 15; i++) {
            x.years(60);
        }
        due.is("999", x.witness(0, 0), 999);
        x.years(60);
        due.is("999 at most", x.witness(0, 0), 999);
        due.is("year", x.count(4), 960);
    }

    private static void undo() {
        TurfGiving x = Due.of(LAND + "dies = 20; seed 7;");
        due.is("none", x.undo(), false);
        x.give(1, 1, 2, 1);
        x.unsay(4, true);
        x.years(2);
        due.is("things done", x.count(10), 3);
        due.is("dead", x.count(5), 1);
        due.is("undo years", x.undo(), true);
        due.is("year", x.count(4), 0);
        due.is("alive", x.count(5), 7);
        due.is("age", x.witness(0, 0), 60);
        due.is("unsaid still", x.count(8), 16);
        due.is("undo unsay", x.undo(), true);
        due.is("said", x.count(8), 0);
        due.is("whose", x.plot(1, 3), 2);
        due.is("undo give", x.undo(), true);
        due.is("givings", x.count(3), 4);
        due.is("whose", x.plot(1, 3), 1);
        none("no such giving", x.giving(4, 0));
        due.is("none", x.undo(), false);
        x.give(2, 0, 1, 6);
        due.is("another one", x.giving(4, 4), 6);
        due.is("said", x.giving(4, 8), 0);
    }

    private static void undoLimit() {
        TurfGiving x = Due.of(LAND);
        for (int i = 0; i < 37; i++) {
            x.years(1);
        }
        due.is("things that can be undone", x.count(10), 30);
        for (int i = 0; i < 30; i++) {
            due.is("undo", x.undo(), true);
            due.is("year", x.count(4), 36 - i);
        }
        due.is("undo", x.undo(), false);
        due.is("year", x.count(4), 7);
        x.years(1);
        due.is("undo", x.undo(), true);
        due.is("year", x.count(4), 7);
    }

    private static void count() {
        TurfGiving x = Due.of(LAND);
        x.give(1, 1, 0, 3);
        x.unsay(2, true);
        x.years(1);
        x.tell(0, true);
        x.tell(1, true);
        x.hold(2);
        x.feed(0, 0, 0, 0, 0);
        // jon's memory of giving 1 is over; giving 2 is sworn to, but unsaid
        int[] counts = {3, 3, 3, 5, 1, 7, 0b10001, 0b10001, 0b100, 20, 3, 2, 1, 1, 2, 5};
        for (int what = 0; what < counts.length; what++) {
            due.is("count " + what, x.count(what), counts[what]);
        }
        none("count 16", x.count(16));
        none("count -1", x.count(-1));
        none("count least", x.count(Integer.MIN_VALUE));
    }

    private static int asks(String law) {
        return Due.of("person a;plot p 7 3 a;asks = " + law + ";").asks(0);
    }

    private static void lawReckoning() {
        due.is("rank", asks("2 + 3 * 4"), 14);
        due.is("brackets", asks("(2 + 3) * 4"), 20);
        due.is("left first", asks("20 - 5 - 4"), 11);
        due.is("left first", asks("40 / 5 * 2"), 16);
        due.is("left first", asks("40 / 5 / 3"), 2);
        due.is("mixed", asks("1 + 2 * 3 - 8 / 4 + 1"), 6);
        due.is("deep", asks("1 + 2 * (1 + 2 * (1 + 2 * (1 + 2 * (1 + 1 * (0 + 1)))))"), 47);
        due.is("long", Due.of("asks = 1" + "+1".repeat(192) + "-150;person a;plot p 7 3 a;").asks(0), 43);
        due.is("towards 0", asks("50 + (0 - 7) / 2"), 47);
        due.is("towards 0", asks("50 + 7 / (0 - 2)"), 47);
        due.is("by 0", asks("5 / 0"), 0);
        due.is("all is 0", asks("7 + 5 / (3 - down)"), 0);
        due.is("all is 0", asks("7 + 0 * (5 / (3 - down))"), 0);
        // 9999 ^ 4 leaves 9999^4 mod 2^32 as an int
        int wrapped = 9999 * 9999 * 9999 * 9999;
        due.is("wraps", asks("if 9999 * 9999 * 9999 * 9999 < 0 then 1 else 2"), wrapped < 0 ? 1 : 2);
        due.is("wraps", asks("if 9999 * 9999 * 22 < 0 then 1 else 2"), 1);
        String least = "(0 - 8192 * 8192 * 32)";
        due.is("least is below 0", asks("if " + least + " < 0 then 1 else 2"), 1);
        due.is("least by -1 wraps", asks("if " + least + " / (0 - 1) < 0 then 1 else 2"), 1);
        due.is("least - 1 wraps", asks("if 0 < " + least + " - 1 then 1 else 2"), 1);
    }

    private static void lawBranches() {
        due.is("first", asks("if 1 < 2 then 5 else if 1 < 2 then 6 else 7"), 5);
        due.is("second", asks("if 2 < 2 then 5 else if 1 < 2 then 6 else 7"), 6);
        due.is("last", asks("if 2 < 2 then 5 else if 3 < 2 then 6 else 7"), 7);
        due.is("fourth", asks("if 2<1 then 1 else if 2<1 then 2 else if 2<1 then 3 else if 1<2 then 4 else 5"), 4);
        due.is("by 0 is not looked at", asks("if 1 < 2 then 5 else 1 / 0"), 5);
        due.is("by 0 is not looked at", asks("if 1 < 2 then 5 else if 1 / 0 < 1 then 6 else 7"), 5);
        due.is("by 0 is not looked at", asks("if 2 < 1 then 1 / 0 else 7"), 7);
        due.is("by 0 in an if", asks("if 1 / 0 < 5 then 5 else 7"), 0);
        due.is("by 0 behind <", asks("if 5 < 1 / 0 then 5 else 7"), 0);
        due.is("by 0 in a later if", asks("if 2 < 1 then 5 else if 1 / 0 < 1 then 6 else 7"), 0);
    }

    private static void lawVars() {
        TurfGiving x = Due.of("person a;person b;plot p 7 3 a;plot q 2 5 b;witness u 1 2;witness v 40 20;"
                + "asks = across * 10 + down + year * 3 + age + memory + since + which + seen + far;"
                + "walks = far * 10 + across * 2 - down + year + age + memory + since + which + seen;"
                + "dies = age + memory * 2 + which * 7 - year + since + seen + far + across + down;"
                + "swears = if which < 1 then age - since * 10 else if year < 3 then seen - 1 else since - memory + far "
                + "+ across + down;"
                + "giving p a b 0 u v;giving p a b 0 v;giving p a b 22 v u;");
        due.is("asks p", x.asks(0), 73);
        due.is("asks q", x.asks(1), 25);
        due.is("walk p q", x.walk(0, 1), 69);
        due.is("walk q p", x.walk(1, 0), 81);
        due.is("walk p p", x.walk(0, 0), 11);
        due.is("dies u", x.witness(0, 4), 5);
        due.is("dies v", x.witness(1, 4), 87);
        due.is("swears 0", x.giving(0, 5), 3);
        due.is("swears 1", x.giving(1, 5), 0);
        due.is("swears 2", x.giving(2, 5), 2);
        TurfGiving y = Due.of("person a;person b;plot p 7 3 a;witness v 40 20;giving p a b 17 v;giving p a b 18 v;"
                + "asks = year;walks = year * 2;dies = year - 5;swears = if year < 3 then 1 else since - memory;");
        due.is("both", y.count(6), 3);
        y.years(3);
        due.is("one", y.count(6), 2);
        due.is("asks", y.asks(0), 3);
        due.is("walk", y.walk(0, 0), 6);
        due.is("dies", y.witness(0, 4), 0);
    }

    private static void lawsHeld() {
        TurfGiving x = Due.of("person a;plot p 0 0 a;plot q 1 0 a;witness u 1 1;witness v 2 2;"
                + "asks = across * 200 - 100;walks = across * 200 - 100;dies = age * 202 - 303;");
        due.is("asks 0", x.asks(0), 0);
        due.is("asks 99", x.asks(1), 99);
        due.is("walks 0", x.walk(1, 0), 0);
        due.is("walks 99", x.walk(0, 1), 99);
        due.is("dies 0", x.witness(0, 4), 0);
        due.is("dies 100", x.witness(1, 4), 100);
        none("walk", x.walk(2, 0));
        none("walk", x.walk(0, 2));
        none("walk", x.walk(-1, 0));
        none("walk", x.walk(0, -1));
        none("asks", x.asks(2));
        none("asks", x.asks(-1));
    }

    /** GIVINGS count in the order told, not by age. */
    private static void order() {
        TurfGiving x = Due.of("person a;person b;person c;plot p 0 0 a;witness w 1 99;giving p b c 9 w;giving p a b 20 w;"
                + "giving p c a 1 w;");
        due.is("whose", x.plot(0, 3), 1);
        due.is("counts", x.count(7), 2);
        x.give(0, 1, 2, 1);
        due.is("by hand behind them", x.plot(0, 3), 2);
        x.give(0, 2, 0, 1);
        due.is("back to the first", x.plot(0, 3), 0);
        due.is("not another one's", x.count(14), 0);
        due.is("counts", x.count(7), 0b11010);
        TurfGiving y = Due.of("person a;person b;plot p 0 0 a;witness w 1 99;witness v 1 5;witness u 1 5;needs 2;"
                + "giving p a b 4 w v;giving p a b 5 w v;giving p a b 4 u v w;giving p a b 5 u v w;");
        due.is("as many as it needs, or more", y.count(6), 0b0101);
    }
}
