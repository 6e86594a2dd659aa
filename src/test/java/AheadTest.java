/** Promises 13 to 32 and the third part of the Terms: what would be, while nothing happens. */
public final class AheadTest {
    private static final String LAND = "person ann;person bob;person cid;plot acre 0 0 ann;plot glebe 3 0 bob;"
            + "plot mead 3 4 ann;witness wat 60 30;witness nel 8 12;witness jon 30 5;giving acre ann bob 10 wat nel;"
            + "giving acre bob cid 4 jon;giving mead bob cid 2 wat;giving glebe bob ann 20 nel;";
    private static final Due due = new Due();

    public static void main(String[] args) {
        lasts();
        book();
        hangs();
        cover();
        coverBySeen();
        coverOrder();
        round();
        roundOrder();
        within();
        hasAndRich();
        chain();
        idle();
        eldest();
        lapse();
        passes();
        weakest();
        inYears();
        yearBySeeds();
        nothingHappens();
        due.end();
    }

    private static void none(String what, int got) {
        due.is(what, got, -1);
    }

    private static void lasts() {
        TurfGiving x = Due.of(LAND + "dies = 100;");
        int[] lasts = {20, 1, 28, 0};
        for (int giving = 0; giving < 4; giving++) {
            due.is("lasts " + giving, x.lasts(giving), lasts[giving]);
        }
        none("lasts 4", x.lasts(4));
        none("lasts -1", x.lasts(-1));
        x.unsay(0, true);
        due.is("unsaid", x.lasts(0), 0);
        x.years(1);
        due.is("all are dead", x.lasts(2), 0);
        String one = "person a;person b;plot p 0 0 a;witness w 50 10;giving p a b 0 w;swears = ";
        due.is("for good", Due.of(one + "1;").lasts(0), -2);
        due.is("200", Due.of(one + "200 - year;").lasts(0), 200);
        due.is("201 is for good", Due.of(one + "201 - year;").lasts(0), -2);
        due.is("since", Due.of(one + "200 - since;").lasts(0), 200);
        due.is("age", Due.of(one + "60 - age;").lasts(0), 10);
        due.is("the first time", Due.of(one + "if year < 3 then 1 else if year < 4 then 0 else 1;").lasts(0), 3);
        due.is("not now", Due.of(one + "year;").lasts(0), 0);
        TurfGiving y = Due.of(one + "60 - age;witness v 10 10;giving p a b 0 w v;needs 2;");
        due.is("needs two", y.lasts(0), 0);
        due.is("needs two", y.lasts(1), 10);
        y.years(4);
        due.is("from now on", y.lasts(1), 6);
    }

    private static void book() {
        TurfGiving x = Due.of(LAND);
        due.is("glebe", x.book(), 1);
        x.unsay(3, true);
        due.is("not what is unsaid", x.book(), 0);
        x.years(1);
        due.is("acre", x.book(), 1);
        x.unsay(3, false);
        due.is("acre, glebe", x.book(), 2);
        due.is("no plots", new TurfGiving().book(), 0);
        TurfGiving y = Due.of("person a;person b;plot p 0 0 a;witness w 1 9;giving p a b 1 w;giving p b a 20 w;");
        due.is("than now, not than at first", y.book(), 1);
    }

    private static void hangs() {
        TurfGiving x = Due.of(LAND);
        due.is("jon", x.hangs(0), 2);
        due.is("acre", x.hangs(1), 1);
        x.give(1, 1, 2, 3);
        x.give(2, 0, 2, 2);
        x.years(4);
        due.is("acre by wat, mead by nel: of alike ones the first", x.hangs(0), 0);
        due.is("one", x.hangs(1), 1);
        x.give(1, 2, 0, 2);
        due.is("mead, glebe by nel", x.hangs(0), 1);
        due.is("two", x.hangs(1), 2);
        none("what 2", x.hangs(2));
        none("what -1", x.hangs(-1));
        TurfGiving y = Due.of("person a;plot p 0 0 a;witness w 80 9;witness v 10 9;dies = age * 2 - 100;");
        y.years(1);
        due.is("only who is alive", y.hangs(0), 1);
        due.is("nothing hangs on him", y.hangs(1), 0);
        TurfGiving z = new TurfGiving();
        due.is("nobody", z.hangs(0), -2);
        due.is("nobody", z.hangs(1), -2);
        none("nobody, what 2", z.hangs(2));
    }

    private static void cover() {
        TurfGiving x = Due.of(LAND);
        due.is("one", x.cover(0, -1), 1);
        due.is("wat", x.cover(0, 0), 0);
        due.is("29 years", x.cover(29, 0), 0);
        due.is("30 years", x.cover(30, -1), -2);
        due.is("30 years", x.cover(30, 3), -2);
        none("not so many", x.cover(0, 1));
        none("i 4", x.cover(0, 4));
        none("i 4", x.cover(30, 4));
        none("i -2", x.cover(0, -2));
        none("n 61", x.cover(61, -1));
        none("n -1", x.cover(-1, -1));
        TurfGiving y = Due.of(LAND + "needs 2;");
        due.is("two", y.cover(11, -1), 2);
        due.is("wat", y.cover(4, 0), 0);
        due.is("nel", y.cover(4, 1), 1);
        none("not so many", y.cover(4, 2));
        due.is("12 years", y.cover(12, -1), -2);
        TurfGiving z = Due.of(LAND + "needs 4;");
        due.is("three are there", z.cover(0, -1), -2);
        TurfGiving dead = Due.of(LAND + "dies = if age < 50 then 0 else 100;");
        due.is("nobody dying", dead.cover(29, 0), 0);
        dead.years(1);
        due.is("wat is dead", dead.cover(0, 0), 1);
        due.is("wat is dead", dead.cover(12, 0), -2);
        due.is("nobody is there", new TurfGiving().cover(0, -1), -2);
        TurfGiving sixty = Due.of("witness w 0 60;");
        due.is("59 years", sixty.cover(59, 0), 0);
        due.is("60 years", sixty.cover(60, 0), -2);
        due.is("60 years", Due.of("witness w 0 61;").cover(60, 0), 0);
        TurfGiving gap = Due.of("witness w 0 60;swears = if year < 3 then 1 else if year < 4 then 0 else 1;");
        due.is("behind each year", gap.cover(2, 0), 0);
        due.is("behind each year", gap.cover(5, 0), -2);
    }

    private static void coverBySeen() {
        String three = "witness u 10 9;witness v 20 0;witness w 30 9;";
        TurfGiving x = Due.of(three + "swears = if seen < 2 then 0 else memory;");
        due.is("one more to be seen by two", x.cover(8, -1), 2);
        due.is("u", x.cover(8, 0), 0);
        due.is("v", x.cover(8, 1), 1);
        TurfGiving y = Due.of(three + "swears = if seen < 4 then 0 else memory;");
        due.is("four are not there", y.cover(0, -1), -2);
        TurfGiving z = Due.of(three + "swears = if which < 1 then 3 - since else if which < 2 then 0 else since - 2;");
        due.is("one for each part", z.cover(2, 0), 0);
        due.is("u till 2, w from 3 on", z.cover(3, -1), 2);
        due.is("u", z.cover(3, 0), 0);
        due.is("w", z.cover(3, 1), 2);
    }

    private static void coverOrder() {
        String seven = "witness a 10 9;witness b 20 9;witness c 30 9;witness d 30 9;witness e 1 9;witness f 1 9;"
                + "witness g 1 9;";
        TurfGiving x = Due.of(seven + "needs 2;swears = if which < 1 then 2 - since else if which < 2 then since else "
                + "if which < 3 then since else if which < 4 then 2 - since else 0;");
        // now: a, d; behind 1 year: a, b, c, d; behind 2 years: b, c
        due.is("a d stand now", x.cover(1, 0), 0);
        due.is("a d stand now", x.cover(1, 1), 3);
        due.is("four for two years", x.cover(2, -1), 4);
        due.is("a", x.cover(2, 0), 0);
        due.is("d", x.cover(2, 3), 3);
        TurfGiving y = Due.of(seven + "needs 4;swears = which;");
        due.is("b c d e", y.cover(60, -1), 4);
        due.is("b", y.cover(60, 0), 1);
        due.is("e", y.cover(60, 3), 4);
        TurfGiving z = Due.of(seven + "needs 2;swears = if which < 3 then which - 1 else if which < 4 then 0 else 1;");
        due.is("c", z.cover(3, 0), 2);
        due.is("e", z.cover(3, 1), 4);
    }

    private static void round() {
        TurfGiving x = Due.of(LAND + "walks = far * 2;asks = 3 + across;");
        due.is("all", x.round(7, -1), 29);
        for (int i = 0; i < 3; i++) {
            due.is("order " + i, x.round(7, i), i);
        }
        none("not so many", x.round(7, 3));
        none("i -2", x.round(7, -2));
        due.is("two", x.round(5, -1), 23);
        due.is("two", x.round(5, 1), 2);
        due.is("one", x.round(2, -1), 6);
        due.is("one", x.round(2, 0), 1);
        due.is("no plots", x.round(0, -1), 0);
        none("no plots", x.round(0, 0));
        none("no such ones", x.round(8, -1));
        none("no such ones", x.round(-1, -1));
        none("no such ones", x.round(Integer.MIN_VALUE, -1));
        due.is("nothing told", new TurfGiving().round(0, -1), 0);
        none("nothing told", new TurfGiving().round(1, -1));
    }

    private static void roundOrder() {
        String line = "person a;plot p 5 0 a;plot q 0 0 a;plot r 9 0 a;plot s 2 0 a;";
        TurfGiving x = Due.of(line);
        // q s p r and r p s q are 9 long; q is told ahead of r
        due.is("line", x.round(15, -1), 13);
        int[] order = {1, 3, 0, 2};
        for (int i = 0; i < 4; i++) {
            due.is("line " + i, x.round(15, i), order[i]);
        }
        TurfGiving y = Due.of(line + "walks = across;asks = 0;");
        // each walk takes its goal's X: the farthest one is best begun at
        int[] second = {2, 0, 1, 3};
        due.is("goals", y.round(15, -1), 7);
        for (int i = 0; i < 4; i++) {
            due.is("goals " + i, y.round(15, i), second[i]);
        }
        TurfGiving z = Due.of("person a;plot p 0 0 a;plot q 1 0 a;plot r 2 0 a;plot s 3 0 a;plot t 4 0 a;plot u 5 0 a;"
                + "plot v 6 0 a;walks = 0;");
        due.is("seven", z.round(127, -1), 7);
        for (int i = 0; i < 7; i++) {
            due.is("seven " + i, z.round(127, i), i);
        }
        TurfGiving w = Due.of("person a;plot p 0 0 a;plot q 1 0 a;asks = year;walks = year * 10;");
        w.years(2);
        due.is("the year", w.round(3, -1), 24);
    }

    private static void within() {
        TurfGiving x = Due.of(LAND + "walks = far * 2;asks = 3 + across;");
        int[][] rows = {{0, 0, 0}, {0, 2, 0}, {0, 3, 1}, {0, 14, 1}, {0, 15, 2}, {0, 28, 2}, {0, 29, 3}, {0, 999, 3},
            {1, 29, 2}, {1, 34, 2}, {1, 35, 3}};
        for (int[] row : rows) {
            due.is("within " + row[0] + " " + row[1], x.within(row[0], row[1]), row[2]);
        }
        none("t 1000", x.within(0, 1000));
        none("t -1", x.within(0, -1));
        none("plot 3", x.within(3, 5));
        none("plot -1", x.within(-1, 5));
        TurfGiving y = Due.of("person a;plot p 0 0 a;plot q 9 9 a;plot r 1 0 a;plot s 2 0 a;");
        due.is("the near ones, not in the order told", y.within(0, 5), 3);
        due.is("not all", y.within(0, 20), 3);
        due.is("all", y.within(0, 22), 4);
    }

    private static void hasAndRich() {
        TurfGiving x = Due.of(LAND);
        int[][] rows = {{0, 0, 1}, {1, 0, 1}, {2, 0, 1}, {0, 1, 1}, {1, 1, 2}, {2, 1, 0}, {0, 20, 2}, {1, 60, 1}};
        for (int[] row : rows) {
            due.is("has " + row[0] + " " + row[1], x.has(row[0], row[1]), row[2]);
        }
        none("has 3", x.has(3, 0));
        none("has -1", x.has(-1, 0));
        none("has n", x.has(0, 61));
        none("has n", x.has(0, -1));
        due.is("of alike ones the first", x.rich(0, 0), 0);
        due.is("one", x.rich(0, 1), 1);
        due.is("bob", x.rich(1, 0), 1);
        due.is("two", x.rich(1, 1), 2);
        due.is("ann", x.rich(60, 0), 0);
        none("n", x.rich(61, 0));
        none("n", x.rich(-1, 0));
        none("what", x.rich(0, 2));
        none("what", x.rich(0, -1));
        TurfGiving y = new TurfGiving();
        due.is("no people", y.rich(0, 0), -2);
        due.is("no people", y.rich(0, 1), -2);
        none("no people, n", y.rich(61, 0));
        none("no people, what", y.rich(0, 2));
        due.is("no plots", Due.of("person a;").rich(0, 1), 0);
        due.is("no plots", Due.of("person a;").rich(0, 0), 0);
        TurfGiving z = Due.of(LAND + "dies = 100;");
        due.is("deaths are gone through", z.has(2, 1), 0);
        due.is("deaths are gone through", z.has(0, 1), 2);
    }

    private static void chain() {
        TurfGiving x = Due.of(LAND);
        due.is("three", x.chain(0, -1), 3);
        for (int i = 0; i < 3; i++) {
            due.is("chain " + i, x.chain(0, i), i);
        }
        none("not so many", x.chain(0, 3));
        none("i most", x.chain(0, Integer.MAX_VALUE));
        none("i -2", x.chain(0, -2));
        none("plot 3", x.chain(3, -1));
        none("plot -1", x.chain(-1, 0));
        due.is("only at first", x.chain(1, -1), 1);
        due.is("only at first", x.chain(1, 0), 1);
        none("only at first", x.chain(1, 1));
        x.give(0, 2, 0, 1);
        due.is("back to ann", x.chain(0, -1), 4);
        due.is("back to ann", x.chain(0, 3), 0);
    }

    private static void idle() {
        TurfGiving x = Due.of(LAND);
        due.is("none", x.idle(0), 0);
        due.is("what stands not is not idle", x.idle(1), 0);
        due.is("mead", x.idle(2), 4);
        none("plot 3", x.idle(3));
        none("plot -1", x.idle(-1));
        x.give(2, 2, 1, 1);
        due.is("mead", x.idle(2), 4 + 16);
        x.unsay(2, true);
        due.is("mead", x.idle(2), 16);
    }

    private static void eldest() {
        TurfGiving x = Due.of(LAND + "dies = if age < 61 then 0 else 100;");
        due.is("wat", x.eldest(0), 0);
        due.is("60", x.eldest(1), 60);
        x.years(2);
        due.is("jon", x.eldest(0), 2);
        due.is("32", x.eldest(1), 32);
        x.years(60);
        due.is("nobody", x.eldest(0), -2);
        due.is("nobody", x.eldest(1), -2);
        none("what 2", x.eldest(2));
        none("what -1", x.eldest(-1));
        TurfGiving y = Due.of("witness u 5 1;witness v 7 1;witness w 7 1;");
        due.is("of alike ones the first", y.eldest(0), 1);
        due.is("0 years old", Due.of("witness u 0 1;").eldest(1), 0);
    }

    private static void lapse() {
        TurfGiving x = Due.of(LAND);
        due.is("0 years", x.lapse(0), 0);
        due.is("1 year", x.lapse(1), 1);
        due.is("20 years", x.lapse(20), 2);
        due.is("28 years", x.lapse(28), 3);
        none("n 61", x.lapse(61));
        none("n -1", x.lapse(-1));
        due.is("by deaths", Due.of(LAND + "dies = 100;").lapse(1), 3);
        TurfGiving y = Due.of(LAND + "swears = year;");
        due.is("those that stand later do not count", y.lapse(5), 0);
    }

    private static void passes() {
        TurfGiving x = Due.of(LAND);
        due.is("acre", x.passes(0), 1);
        due.is("glebe", x.passes(1), -2);
        due.is("mead", x.passes(2), -2);
        none("plot 3", x.passes(3));
        none("plot -1", x.passes(-1));
        x.years(1);
        due.is("acre to ann", x.passes(0), 19);
        String one = "person a;person b;plot p 0 0 a;witness w 50 10;giving p a b 0 w;swears = ";
        due.is("200", Due.of(one + "200 - year;").passes(0), 200);
        due.is("201", Due.of(one + "201 - year;").passes(0), -2);
        due.is("another one's later", Due.of(one + "year - 3;").passes(0), 4);
        // the lots of SEED 7 for WITNESS 0: 62 68 59 49 24
        due.is("as they go", Due.of(one + "1;seed 7;dies = 40;").passes(0), 5);
        due.is("as they go", Due.of(one + "1;seed 7;dies = 60;").passes(0), 3);
    }

    private static void weakest() {
        TurfGiving x = Due.of(LAND);
        due.is("jon's", x.weakest(0), 1);
        due.is("one swears", x.weakest(1), 1);
        x.give(1, 1, 0, 3);
        due.is("jon's", x.weakest(0), 1);
        x.years(1);
        due.is("nel has left two", x.weakest(1), 2);
        due.is("of alike ones the first", x.weakest(0), 0);
        x.unsay(0, true);
        due.is("glebe's", x.weakest(0), 4);
        x.unsay(4, true);
        due.is("none counts", x.weakest(0), -2);
        due.is("none counts", x.weakest(1), -2);
        none("what 2", x.weakest(2));
        none("what -1", x.weakest(-1));
        none("what 2, nothing told", new TurfGiving().weakest(2));
    }

    private static void inYears() {
        TurfGiving x = Due.of(LAND + "seed 7;dies = 20;swears = 1;");
        // the lots: nel dies in year 0 (3), jon in year 1 (19), wat not by 24 in year 4
        due.is("cid", x.ownerIn(0, 0), 2);
        due.is("cid", x.ownerIn(0, 1), 2);
        due.is("bob", x.ownerIn(0, 2), 1);
        due.is("ann", x.ownerIn(1, 0), 0);
        due.is("bob", x.ownerIn(1, 1), 1);
        none("ownerIn", x.ownerIn(3, 0));
        none("ownerIn", x.ownerIn(-1, 0));
        none("ownerIn", x.ownerIn(0, 61));
        none("ownerIn", x.ownerIn(0, -1));
        due.is("jon 1", x.then(2, 1, 0), 31);
        due.is("jon 1", x.then(2, 1, 1), 1);
        due.is("jon 2", x.then(2, 2, 0), 31);
        due.is("jon 2", x.then(2, 2, 1), 0);
        due.is("nel 60", x.then(1, 60, 0), 8);
        due.is("nel 0", x.then(1, 0, 1), 1);
        none("then", x.then(3, 0, 0));
        none("then", x.then(-1, 0, 0));
        none("then", x.then(0, 61, 0));
        none("then", x.then(0, -1, 0));
        none("then", x.then(0, 0, 2));
        none("then", x.then(0, 0, -1));
        due.is("two", x.swearIn(0, 0), 2);
        due.is("one", x.swearIn(0, 1), 1);
        due.is("jon", x.swearIn(1, 1), 1);
        due.is("none", x.swearIn(1, 2), 0);
        none("swearIn", x.swearIn(4, 0));
        none("swearIn", x.swearIn(-1, 0));
        none("swearIn", x.swearIn(0, 61));
        none("swearIn", x.swearIn(0, -1));
        x.unsay(0, true);
        due.is("unsaid, sworn to all the same", x.swearIn(0, 0), 2);
        x.years(1);
        due.is("from now on", x.ownerIn(1, 0), 1);
        due.is("from now on", x.then(2, 1, 1), 0);
    }

    private static void yearBySeeds() {
        // the lots of WITNESS 0 in year 0: 62 by SEED 7, 47 by SEED 8
        TurfGiving x = Due.of("person a;person b;plot p 0 0 a;witness w 50 10;giving p a b 0 w;swears = 1;seed 7;dies = 50;");
        due.is("seed 7", x.year(0, 1, 1, 1), 1);
        due.is("seeds 7, 8", x.year(0, 1, 1, 2), 1);
        due.is("seeds 7, 8", x.year(0, 0, 1, 2), 1);
        x = Due.of("person a;person b;plot p 0 0 a;witness w 50 10;giving p a b 0 w;swears = 1;seed 7;dies = 47;");
        due.is("47 is not less than 47", x.year(0, 1, 1, 2), 2);
        x = Due.of("person a;person b;plot p 0 0 a;witness w 50 10;giving p a b 0 w;swears = 1;seed 9999;dies = 50;");
        // by SEEDS 9999 .. 10003: 56 8 13 84 88
        due.is("beyond 9999", x.year(0, 1, 1, 5), 3);
        due.is("in 0 years", x.year(0, 1, 0, 20), 20);
        due.is("in 60 years", x.year(0, 0, 60, 20), 20);
        due.is("all of them", x.year(0, 0, 3, 20) + x.year(0, 1, 3, 20), 20);
        none("plot", x.year(1, 0, 0, 1));
        none("plot", x.year(-1, 0, 0, 1));
        none("person", x.year(0, 2, 0, 1));
        none("person", x.year(0, -1, 0, 1));
        none("n", x.year(0, 0, 61, 1));
        none("n", x.year(0, 0, -1, 1));
        none("s", x.year(0, 0, 0, 0));
        none("s", x.year(0, 0, 0, 21));
    }

    private static void nothingHappens() {
        TurfGiving x = Due.of(LAND + "seed 7;dies = 20;");
        x.lasts(0);
        x.hangs(0);
        x.cover(9, -1);
        x.round(7, -1);
        x.within(0, 9);
        x.has(0, 9);
        x.rich(9, 0);
        x.lapse(9);
        x.passes(0);
        x.ownerIn(0, 9);
        x.then(0, 9, 0);
        x.swearIn(0, 9);
        x.year(0, 0, 9, 9);
        int[] counts = {3, 3, 3, 4, 0, 7, 7, 3, 0, 0, 0, 0, 0, 1, 1, 4};
        for (int what = 0; what < counts.length; what++) {
            due.is("count " + what, x.count(what), counts[what]);
        }
        due.is("age", x.witness(0, 0), 60);
    }
}
