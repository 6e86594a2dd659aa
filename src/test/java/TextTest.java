/** Promises 1 to 5 and the first part of the Terms: the tape, texts and their FAULTS. */
public final class TextTest {
    private static final Due due = new Due();

    public static void main(String[] args) {
        newObject();
        feed();
        back();
        read();
        place();
        tokens();
        syntax();
        roomOfSorts();
        roomOfTokens();
        roomOfLaws();
        twice();
        names();
        wrong();
        firstByPlace();
        faultChangesNothing();
        newTextBeginsAnew();
        due.end();
    }

    private static void fault(String text, int number, int place) {
        TurfGiving x = new TurfGiving();
        due.is("read of " + text, Due.read(x, text), number);
        due.is("place of " + text, x.place(), place);
        due.is("tape behind read", x.count(9), 0);
    }

    private static void fits(String text) {
        fault(text, 0, -1);
    }

    private static String many(String part, int times) {
        return part.repeat(times);
    }

    private static void newObject() {
        TurfGiving x = new TurfGiving();
        for (int what = 0; what <= 15; what++) {
            due.is("new count " + what, x.count(what), what == 13 ? 1 : 0);
        }
        due.is("new place", x.place(), -1);
        due.is("new undo", x.undo(), false);
        due.is("NONE", TurfGiving.NONE, -1);
    }

    private static void feed() {
        TurfGiving x = new TurfGiving();
        // "seed" " 123" "4;wi" "tnes" "s ab"; highest byte first
        due.is("feed", x.feed(0x73656564, 0x20313233, 0x343b7769, 0x746e6573, 0x73206162), 20);
        due.is("fed", x.count(9), 20);
        due.is("feed", x.feed(0x20372039, 0x3b202020, 0x20202020, 0x20202020, 0x20202020), 40);
        due.is("read", x.read(), 0);
        due.is("witness told", x.witness(0, 0), 7);
        for (int i = 1; i <= 100; i++) {
            due.is("feed " + i, x.feed(0, 0, 0, 0, 0), 20 * i);
        }
        due.is("feed too much", x.feed(0, 0, 0, 0, 0), -1);
        due.is("nothing came", x.count(9), 2000);
        due.is("back 19", x.back(19), 1981);
        due.is("feed too much", x.feed(0, 0, 0, 0, 0), -1);
        due.is("back 1", x.back(1), 1980);
        due.is("feed", x.feed(0, 0, 0, 0, 0), 2000);
        due.is("bytes of 0 are no blanks", x.read(), 1);
        due.is("place", x.place(), 0);
    }

    private static void back() {
        TurfGiving x = new TurfGiving();
        due.is("back 0 of nothing", x.back(0), 0);
        due.is("back 1 of nothing", x.back(1), -1);
        x.feed(0x70657273, 0x6f6e2061, 0x3b3f3f3f, 0x3f3f3f3f, 0x3f3f3f3f);
        due.is("back -1", x.back(-1), -1);
        due.is("back 21", x.back(21), -1);
        due.is("back least", x.back(Integer.MIN_VALUE), -1);
        due.is("nothing went", x.count(9), 20);
        due.is("back 11", x.back(11), 9);
        due.is("read", x.read(), 0);
        due.is("person", x.count(0), 1);
        x.feed(0, 0, 0, 0, 0);
        due.is("back all", x.back(20), 0);
    }

    private static void read() {
        TurfGiving x = new TurfGiving();
        due.is("read of nothing", x.read(), 0);
        due.is("read", Due.read(x, "person a;"), 0);
        due.is("people", x.count(0), 1);
        due.is("tape", x.count(9), 0);
        due.is("read of nothing", x.read(), 0);
        due.is("people", x.count(0), 0);
        due.is("read of a wrong one", Due.read(x, "person"), 1);
        due.is("tape", x.count(9), 0);
        due.is("read of blanks", Due.read(x, " \t\r\n "), 0);
        String all = "person a;person b;plot p 0 9 b;witness w 0 99;witness v 99 0;giving p b a 99 v w;giving p a b 0;"
                + "needs 4;needs 2;seed 9999;seed 12;asks=1;asks=2;";
        due.is("read of all", Due.read(x, all), 0);
        due.is("people", x.count(0), 2);
        due.is("plots", x.count(1), 1);
        due.is("witnesses", x.count(2), 2);
        due.is("givings", x.count(3), 2);
        due.is("the last needs", x.count(13), 2);
        due.is("the last asks", x.asks(0), 2);
        due.is("x", x.plot(0, 0), 0);
        due.is("y", x.plot(0, 1), 9);
        due.is("whose", x.plot(0, 2), 1);
        due.is("age", x.witness(1, 0), 99);
        due.is("memory", x.witness(1, 1), 0);
        due.is("ago", x.giving(0, 3), 99);
        due.is("before", x.giving(0, 4), 3);
        due.is("before nobody", x.giving(1, 4), 0);
    }

    private static void place() {
        TurfGiving x = new TurfGiving();
        Due.read(x, "  ?");
        due.is("place", x.place(), 2);
        due.is("place again", x.place(), 2);
        x.feed(0, 0, 0, 0, 0);
        due.is("place of the latest read", x.place(), 2);
        x.back(20);
        x.read();
        due.is("place without", x.place(), -1);
    }

    private static void tokens() {
        fits("person abcdefgh;");
        fits("person az;person zy;person zzzzzzzz;");
        fault("person abcdefghi;", 1, 7);
        fits("person\na\t;\rperson b;");
        fault("person\u000ba;", 1, 6);
        fits("person a;plot p1 2a;");
        fault("person a;plot p12a;", 1, 17);
        fits("asks=9999;seed 0000;");
        fault("asks=10000;", 1, 5);
        fault("asks=00001;", 1, 5);
        fault("personal;", 1, 0);
        fault("persona l;", 1, 0);
        fault("person seed;", 1, 7);
        fault("person then;", 1, 7);
        fault("person far;", 1, 7);
        fits("person text;person tell;person law;person name;person int;");
        fault("person A;", 1, 7);
        fault("person a\u00e9;", 1, 8);
        fault("person a;.", 1, 9);
        fault("person a, b;", 1, 8);
        fault("asks = 1 > 0;", 1, 9);
    }

    private static void syntax() {
        fault("person", 1, 6);
        fault("person a", 1, 8);
        fault("person a  ", 1, 10);
        fault("person a;;", 1, 9);
        fault("person a b;", 1, 9);
        fault("a;", 1, 0);
        fault("plot p 1 a;", 1, 9);
        fault("plot p 1 1;", 1, 10);
        fault("witness w 1;", 1, 11);
        fault("witness w 1 2 3;", 1, 14);
        fault("giving p a 1;", 1, 11);
        fault("giving p a b c;", 1, 13);
        fault("giving p a b 1 w 2;", 1, 17);
        fault("needs;", 1, 5);
        fault("needs - 1;", 1, 6);
        fault("seed a;", 1, 5);
        fault("asks 1;", 1, 5);
        fault("asks = ;", 1, 7);
        fault("asks = - 1;", 1, 7);
        fault("asks = 1 2;", 1, 9);
        fault("asks = (1;", 1, 9);
        fault("asks = 1);", 1, 8);
        fault("asks = ();", 1, 8);
        fault("asks = 1 +;", 1, 10);
        fault("asks = 1 * / 2;", 1, 11);
        fault("asks = 1 < 2;", 1, 9);
        fault("asks = a;", 1, 7);
        fault("asks = if 1 then 2 else 3;", 1, 12);
        fault("asks = if 1 < 2 else 3;", 1, 16);
        fault("asks = if 1 < 2 then 3;", 1, 22);
        fault("asks = if 1 < 2 then 3 else;", 1, 27);
        fault("asks = 1 + if 1 < 2 then 3 else 4;", 1, 11);
        fault("asks = (if 1 < 2 then 3 else 4);", 1, 8);
        fault("asks = if 1 < 2 then if 1 < 2 then 1 else 2 else 3;", 1, 21);
        fault("asks = 1", 1, 8);
        fits("asks = ((1 + 2) * (3 - age)) / across;dies = if age + 1 < (2) then 3 * 3 else if 1 < 2 then 4 else 5;");
    }

    private static String numbered(String ahead, int times, String behind) {
        StringBuilder text = new StringBuilder();
        for (int i = 0; i < times; i++) {
            text.append(ahead).append((char) ('a' + i)).append(behind);
        }
        return text.toString();
    }

    private static void roomOfSorts() {
        String people = numbered("person p", 6, ";");
        String plots = numbered("plot q", 7, " 1 1 pa;");
        String witnesses = numbered("witness w", 7, " 1 1;");
        String givings = many("giving qa pa pb 1 wa;", 12);
        String all = people + plots + witnesses + givings;
        fits(all);
        fault(all + "person pg;", 2, all.length());
        fault(all + "plot qh 1 1 pa;", 2, all.length());
        fault(all + "witness wh 1 1;", 2, all.length());
        fault(all + "giving qa pa pb 1;", 2, all.length());
        fault(all + "giving", 2, all.length());
        fault(all + " person ?", 2, all.length() + 1);
        fault(all + "; person a;", 1, all.length());
        fault(numbered("person p", 7, ";") + "?", 2, 60);
        fault(many("person a;", 7), 2, 54);
    }

    private static void roomOfTokens() {
        String full = many("seed 1;", 133) + "                     ";
        // 399 TOKENS; a law has four at least, so that no text has exactly 400 by these alone
        fits(full);
        fault(full + "seed 1;", 2, full.length() + 5);
        fault(full + "seed", 1, full.length() + 4);
        fault(full + "seed ?", 1, full.length() + 5);
        fault(full + "seed a", 1, full.length() + 5);
        String all = many("seed 1;", 132) + "asks=1;";
        fits(all);
        fault(all + " seed 1;", 2, all.length() + 1);
        fault(all + " 1", 1, all.length() + 1);
        fault(all + " ?", 1, all.length() + 1);
        fits(all + "  ");
        String law = "asks=1" + many("+1", 198) + ";";
        fits(law);
        String longer = "asks=1" + many("+1", 199) + ";";
        fault(longer, 2, longer.length() - 2);
        String names = "giving a b c 1" + many(" d", 394) + ";";
        fault(names, 4, 7);
        fault("giving a b c 1" + many(" d", 395) + ";", 2, 14 + 2 * 395);
        fault("giving a b c 1" + many(" d", 396) + ";", 2, 15 + 2 * 395);
    }

    private static void roomOfLaws() {
        String branch = "if 1 < 2 then 3 else ";
        fits("asks = " + many(branch, 4) + "1;");
        fault("asks = " + many(branch, 5) + "1;", 2, 7 + 4 * branch.length());
        fits("asks = " + many(branch, 4) + "1;dies = " + many(branch, 4) + "1;");
        fits("asks = " + many("(", 6) + "1" + many(")", 6) + ";");
        fault("asks = " + many("(", 7) + "1" + many(")", 7) + ";", 2, 13);
        fault("asks = " + many("(", 7), 2, 13);
        fits("asks = (((((1))))) + ((((((1)))))) * ((((((1 + 1))))));");
        fits("asks = if ((((((1)))))) < ((((((2)))))) then ((((((3)))))) else ((((((4))))));");
        fault("asks = (1 + (1 + (1 + (1 + (1 + (1 + (1)))))));", 2, 37);
    }

    private static void twice() {
        fault("person a; person a;", 3, 17);
        fault("person a; plot a 1 1 a;", 3, 15);
        fault("person a; witness a 1 1;", 3, 18);
        fault("witness a 1 1; person a;", 3, 22);
        fault("person a; plot p 1 1 a; witness p 1 1;", 3, 32);
        String land = "person a;person b;plot p 1 1 a;witness w 1 1;witness v 1 1;";
        fits(land + "giving p a b 1 w v;");
        fault(land + "giving p a a 1 w v;", 3, land.length() + 11);
        fault(land + "giving p a b 1 w v w;", 3, land.length() + 19);
        fault(land + "giving p a b 1 w w w;", 3, land.length() + 17);
        fits(land + "giving p a b 1 w;giving p a b 1 w;");
    }

    private static void names() {
        String land = "person a;person b;plot p 1 1 a;witness w 1 1;";
        int at = land.length();
        fault(land + "giving q a b 1 w;", 4, at + 7);
        fault(land + "giving a a b 1 w;", 4, at + 7);
        fault(land + "giving p c b 1 w;", 4, at + 9);
        fault(land + "giving p c c 1 w;", 4, at + 9);
        fault(land + "giving p a c 1 w;", 4, at + 11);
        fault(land + "giving p a p 1 w;", 4, at + 11);
        fault(land + "giving p a b 1 w a;", 4, at + 17);
        fault(land + "giving p a b 1 x x;", 4, at + 15);
        fault(land + "plot q 1 1 w;", 4, at + 11);
        fault("plot p 1 1 a; person a;", 4, 11);
        fault("plot p 1 1 p;", 4, 11);
        fault(land + "giving p a b 1 v; witness v 1 1;", 4, at + 15);
    }

    private static void wrong() {
        String a = "person a;";
        fits(a + "plot p 0 9 a;plot q 9 0 a;");
        fault(a + "plot p 10 0 a;", 5, 16);
        fault(a + "plot p 0 10 a;", 5, 18);
        fault(a + "plot p 10 10 b;", 5, 16);
        fits("witness w 0 99;witness v 99 0;");
        fault("witness w 100 0;", 5, 10);
        fault("witness w 0 100;", 5, 12);
        String land = "person a;person b;plot p 1 1 a;";
        fits(land + "giving p a b 99;");
        fault(land + "giving p a b 100;", 5, land.length() + 13);
        fault("needs 0;", 5, 6);
        fault("needs 5;needs 1;", 5, 6);
        fits("needs 1;needs 4;seed 0;seed 9999;");
        fits("asks = 9999 + 0;");
        fits("needs 0002;");
    }

    private static void firstByPlace() {
        fault("person a; person a; ?", 1, 20);
        fault("needs 0; person a; person a;", 5, 6);
        fault("person a; person a; needs 0;", 3, 17);
        fault("needs 0;" + many("person a;", 7), 2, 62);
        fault("plot p 10 1 a;", 5, 7);
        fault("person a;person b;plot p 1 1 a;witness w 1 1;giving p a b 100 w w;", 5, 58);
        fault("person a;person b;plot p 1 1 a;witness w 1 1;giving p a b 99 w w 1;", 1, 65);
    }

    private static void faultChangesNothing() {
        TurfGiving x = Due.of("person a;person b;plot p 2 3 a;witness w 10 20;giving p a b 1 w;needs 1;asks=7;");
        x.give(0, 1, 0, 1);
        x.years(2);
        x.unsay(0, true);
        x.tell(0, true);
        x.hold(1);
        String[] wrongs = {"needs 2;asks=5;?", "needs 2;asks=6;needs 0;", "person z;person z;",
            many("person a;", 7)};
        for (String wrong : wrongs) {
            due.is("fault", Due.read(x, wrong) != 0, true);
            int[] counts = {2, 1, 1, 2, 2, 1, 2, 0, 1, 0, 3, 1, 1, 1, 0, 2};
            for (int what = 0; what < counts.length; what++) {
                due.is("count " + what + " behind " + wrong, x.count(what), counts[what]);
            }
            due.is("asks", x.asks(0), 7);
            due.is("memory", x.witness(0, 1), 20);
        }
        due.is("restore", x.restore(1), true);
    }

    private static void newTextBeginsAnew() {
        TurfGiving x = Due.of("person a;person b;plot p 2 3 a;witness w 10 20;giving p a b 1 w;needs 2;seed 5;asks=7;"
                + "walks=8;dies=100;swears=1;");
        x.give(0, 1, 0, 1);
        x.years(2);
        x.unsay(0, true);
        x.tell(0, true);
        x.hold(0);
        x.hold(2);
        due.is("read", Due.read(x, "person a;person b;plot p 2 3 a;plot q 2 4 a;witness w 10 20;giving p a b 1 w;"), 0);
        int[] counts = {2, 2, 1, 1, 0, 1, 1, 1, 0, 0, 0, 0, 0, 1, 1, 1};
        for (int what = 0; what < counts.length; what++) {
            due.is("count " + what, x.count(what), counts[what]);
        }
        due.is("undo", x.undo(), false);
        due.is("restore", x.restore(0), false);
        due.is("ask not told", x.asks(0), 1);
        due.is("walks not told", x.walk(0, 1), 1);
        due.is("dies not told", x.witness(0, 4), 0);
        due.is("swears not told", x.lasts(0), 19);
        due.is("age", x.witness(0, 0), 10);
        // a third one, in the rows of the first
        due.is("read", Due.read(x, "person a;plot p 2 3 a;plot q 2 5 a;witness w 10 20;"), 0);
        due.is("people", x.count(0), 1);
        due.is("plots", x.count(1), 2);
        due.is("witnesses", x.count(2), 1);
        due.is("givings", x.count(3), 0);
        due.is("needs not told", x.count(13), 1);
        due.is("ask not told", x.asks(0), 1);
        due.is("walks not told", x.walk(0, 1), 2);
        due.is("dies not told", x.witness(0, 4), 0);
        for (int i = 0; i < 60; i++) {
            due.is("read", Due.read(x, "person a;plot p 2 3 a;swears = 1 + 2 * 3;dies = 4;walks = 5;asks = 6 + 7;"), 0);
        }
        due.is("asks", x.asks(0), 13);
    }
}
