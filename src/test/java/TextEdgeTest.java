import java.util.ArrayList;
import java.util.Arrays;
import java.util.List;

/** The edges of the tape and of texts, sentence by sentence: the first part of the Terms, promises 1 to 5. */
public final class TextEdgeTest {
    private static final Due due = new Due();
    private static final String[] WORDS = {"person", "plot", "witness", "giving", "swears", "dies", "walks", "asks",
        "needs", "seed", "if", "then", "else", "age", "memory", "since", "year", "which", "seen", "far", "across",
        "down"};
    private static final List<String> TELLS = Arrays.asList(WORDS).subList(0, 10);
    private static final List<String> VARS = Arrays.asList(WORDS).subList(13, 22);
    private static final String SIGNS = ";=+-*/<()";
    private static final String LAND = "person a;person b;plot p 1 2 a;plot q 3 4 b;witness w 50 20;witness v 10 9;";

    public static void main(String[] args) {
        newObject();
        feedFull();
        feedOrder();
        back();
        readEmpties();
        place();
        bytesAtMost();
        blanks();
        blanksOrNot();
        namesOfEight();
        words();
        ints();
        signs();
        whatGoesOn();
        emptyText();
        sortsFull();
        numberedAsTheyStand();
        rangesOfInts();
        lawsIfNotTold();
        needsAndSeedTheLast();
        placeOfTheEnd();
        syntaxAheadOfRoom();
        tokens401();
        oneMoreOfASort();
        fifthIf();
        seventhBracket();
        secondLook();
        twiceAllTogether();
        twiceInAGiving();
        noSuchName();
        theFirstOne();
        wrongAtTheInt();
        faultChangesNothing();
        inPlaceOfTheOneAhead();
        fullAgainAndAgain();
        brokenOffAndWhole();
        due.end();
    }

    private static void fault(String text, int number, int place) {
        TurfGiving x = new TurfGiving();
        due.is("read of " + text, Due.read(x, text), number);
        due.is("place of " + text, x.place(), place);
    }

    private static void fits(String text) {
        fault(text, 0, -1);
    }

    private static String blanksOf(int many) {
        return " ".repeat(many);
    }

    // ---- the tape

    private static void newObject() {
        due.sentence("No PEOPLE, no PLOTS.");
        TurfGiving x = new TurfGiving();
        due.is("people", x.count(0), 0);
        due.is("plots", x.count(1), 0);
        due.is("plot 0", x.plot(0, 0), -1);
        due.is("has of person 0", x.has(0, 0), -1);
        due.is("round of no plots", x.round(0, -1), 0);
        due.is("place", x.place(), -1);
        due.is("tape", x.count(9), 0);
    }

    private static void feedFull() {
        due.sentence("NONE, and nothing comes, if it would have more than 2,000.");
        for (int over = 0; over <= 20; over++) {
            TurfGiving x = new TurfGiving();
            // what would come is no TOKEN, so that it would show
            Due.feed(x, Due.bytes(blanksOf(1980 + over - 9) + "person a;"));
            due.is("feed behind " + (1980 + over), x.feed(0, 0, 0, 0, 0), over == 0 ? 2000 : -1);
            due.is("tape", x.count(9), over == 0 ? 2000 : 1980 + over);
            due.is("read", x.read(), over == 0 ? 1 : 0);
            due.is("place", x.place(), over == 0 ? 1980 : -1);
            due.is("people", x.count(0), over == 0 ? 0 : 1);
        }
    }

    private static void feedOrder() {
        due.sentence("Twenty bytes, the highest of a first, come behind the tape: how many it has.");
        String twenty = "person abcdefg;seed ";
        TurfGiving x = new TurfGiving();
        due.is("first", x.feed(0x70657273, 0x6f6e2061, 0x62636465, 0x66673b73, 0x65656420), 20);
        due.is("second, behind it", x.feed(0x373b7769, 0x746e6573, 0x73207720, 0x38203920, 0x3b202020), 40);
        due.is("read of " + twenty + "7;witness w 8 9 ;", x.read(), 0);
        due.is("person", x.count(0), 1);
        due.is("age", x.witness(0, 0), 8);
        due.is("memory", x.witness(0, 1), 9);
        for (int at = 0; at < 20; at++) {
            // one byte of 255 among blanks: its place tells where it came
            int[] five = {0x20202020, 0x20202020, 0x20202020, 0x20202020, 0x20202020};
            five[at / 4] |= 255 << (24 - at % 4 * 8);
            TurfGiving y = new TurfGiving();
            due.is("feed", y.feed(five[0], five[1], five[2], five[3], five[4]), 20);
            due.is("read", y.read(), 1);
            due.is("byte " + at, y.place(), at);
        }
    }

    private static void back() {
        due.sentence("NONE, and nothing goes, if it has not so many, or n is below 0.");
        int[] wrong = {-1, -2, -20, Integer.MIN_VALUE, 21, 22, 40, 2000, Integer.MAX_VALUE};
        for (int n : wrong) {
            TurfGiving x = new TurfGiving();
            Due.feed(x, Due.bytes("person abcdefg;     "));
            due.is("back " + n, x.back(n), -1);
            due.is("tape", x.count(9), 20);
            due.is("read", x.read(), 0);
            due.is("person", x.count(0), 1);
        }
        TurfGiving x = new TurfGiving();
        due.is("back 1 of none", x.back(1), -1);
        due.is("back -1 of none", x.back(-1), -1);
        due.is("back 0 of none", x.back(0), 0);
        due.sentence("The last n bytes of the tape go: how many it has.");
        for (int n = 0; n <= 20; n++) {
            TurfGiving y = new TurfGiving();
            Due.feed(y, Due.bytes("?                   "));
            due.is("back " + n, y.back(n), 20 - n);
            due.is("the last ones go", y.read(), n == 20 ? 0 : 1);
        }
        String whole = "person abc ; seed 12345 ; asks = 1 + 2 ; ??  ";
        for (int length = 0; length <= whole.length(); length++) {
            // what went must not be read, whatever it was: a text of that length alone tells what is due
            TurfGiving cut = new TurfGiving();
            Due.feed(cut, Due.bytes(whole));
            due.is("back to " + length, cut.back(whole.length() - length), length);
            TurfGiving alone = new TurfGiving();
            Due.feed(alone, Due.bytes(whole.substring(0, length)));
            due.is("read of " + length, cut.read(), alone.read());
            due.is("place of " + length, cut.place(), alone.place());
        }
        goneBack("person a           b", 12, 1, 8);
        goneBack("person ab          b", 12, 1, 8);
        goneBack("seed 12;           b", 14, 1, 6);
        goneBack("seed 12345;        b", 11, 1, 9);
        goneBack("seed   ;           b", 16, 1, 4);
        goneBack("seed                ", 16, 1, 4);
        TurfGiving full = new TurfGiving();
        for (int i = 0; i < 100; i++) {
            full.feed(-1, -1, -1, -1, -1);
        }
        due.is("back of all", full.back(2000), 0);
        due.is("back of one more", full.back(1), -1);
        due.is("feed anew", full.feed(0x20202020, 0x20202020, 0x20202020, 0x20202020, 0x20202020), 20);
        due.is("what went is gone", full.read(), 0);
    }

    private static void goneBack(String twenty, int n, int number, int place) {
        TurfGiving x = new TurfGiving();
        Due.feed(x, Due.bytes(twenty));
        x.back(n);
        due.is("read of " + twenty + " without " + n, x.read(), number);
        due.is("place of " + twenty + " without " + n, x.place(), place);
    }

    private static void readEmpties() {
        due.sentence("The tape, which is empty then, is read: 0, or the number of its FAULT.");
        String[] texts = {"", "person a;", "?", "person a;".repeat(7), "person a;person a;", "plot p 1 1 a;", "needs 0;"};
        int[] numbers = {0, 0, 1, 2, 3, 4, 5};
        TurfGiving x = new TurfGiving();
        for (int i = 0; i < texts.length; i++) {
            due.is("read of " + texts[i], Due.read(x, texts[i]), numbers[i]);
            due.is("tape", x.count(9), 0);
            due.is("back 1", x.back(1), -1);
            due.is("read again", x.read(), 0);
        }
    }

    private static void place() {
        due.sentence("The byte of the latest read()'s FAULT; NONE without.");
        TurfGiving x = new TurfGiving();
        due.is("no read", x.place(), -1);
        Due.read(x, "?");
        due.is("byte 0", x.place(), 0);
        Due.feed(x, Due.bytes("     "));
        due.is("fed, not read", x.place(), 0);
        x.back(5);
        Due.read(x, blanksOf(1999) + "?");
        due.is("the last byte", x.place(), 1999);
        Due.read(x, blanksOf(1996) + "seed");
        due.is("the end", x.place(), 2000);
        x.years(1);
        x.undo();
        x.hold(0);
        x.restore(0);
        due.is("of the latest read still", x.place(), 2000);
        x.read();
        due.is("without", x.place(), -1);
    }

    // ---- TOKENS

    private static void bytesAtMost() {
        due.sentence("A TEXT has 2,000 bytes at most.");
        fits(blanksOf(2000));
        fits(blanksOf(1991) + "person a;");
        fits("person a;" + blanksOf(1991));
        fault(blanksOf(1999) + "?", 1, 1999);
        fault(blanksOf(1994) + "person", 1, 2000);
        fault("x".repeat(2000), 1, 0);
        fault("1".repeat(2000), 1, 0);
    }

    private static boolean isBlank(int b) {
        return b == 9 || b == 10 || b == 13 || b == 32;
    }

    private static boolean isLetter(int b) {
        return b >= 'a' && b <= 'z';
    }

    private static boolean isDigit(int b) {
        return b >= '0' && b <= '9';
    }

    private static void blanks() {
        due.sentence("with blanks (9, 10, 13, 32) between or not");
        for (int b = 0; b < 256; b++) {
            String sign = "" + (char) b;
            String between = "person" + sign + "a;";
            fault(between, isBlank(b) ? 0 : 1, isBlank(b) ? -1 : isLetter(b) ? 0 : 6);
            String behind = "person a;" + sign;
            fault(behind, isBlank(b) ? 0 : 1, isBlank(b) ? -1 : 9);
            String ahead = sign + "person a;";
            fault(ahead, isBlank(b) ? 0 : 1, isBlank(b) ? -1 : 0);
            String inName = "person a" + sign + "c;";
            // a blank, or a sign that is none of a name, ends it: what comes then is one TOKEN too many
            fault(inName, isLetter(b) ? 0 : 1, isLetter(b) ? -1 : isBlank(b) ? 9 : b == ';' ? 9 : 8);
        }
    }

    private static void blanksOrNot() {
        due.sentence("with blanks (9, 10, 13, 32) between or not");
        String close = "person a;person b;plot p0 9a;witness w0 99;giving p a b0w;needs 1;seed 1;asks=if 1<2then 3else 4*(5-6)/7;";
        fits(close);
        fits(close.replace(";", " \t\r\n ; \n\r\t "));
        TurfGiving x = Due.of(close);
        due.is("given before", x.giving(0, 4), 1);
        due.is("years ago", x.giving(0, 3), 0);
        due.is("asks", x.asks(0), 3);
        due.sentence("TOKENS, the longest that can be");
        fault("personal;", 1, 0);
        fault("perso n a;", 1, 0);
        fault("persona;", 1, 0);
        fault("asks = 1 2;", 1, 9);
        fits("asks = 12;");
        fault("person a b;", 1, 9);
        fits("person ab;");
        fits("asks=if1<2then 3else 4;");
        fault("asks=if 1<2 then3elsee 4;", 1, 17);
        fault("asks=if 1<2 thenn 3 else 4;", 1, 12);
        fault("asks=ifage<2 then 3 else 4;", 1, 5);
    }

    private static void namesOfEight() {
        due.sentence("NAMES (letters a .. z, 8 at most, none of the words in quotes)");
        for (int letters = 1; letters <= 12; letters++) {
            for (char letter : new char[] {'a', 'm', 'z'}) {
                String text = "person " + ("" + letter).repeat(letters) + ";";
                fault(text, letters <= 8 ? 0 : 1, letters <= 8 ? -1 : 7);
            }
        }
        fits("person abcdefgh;person abcdefgi;person bbcdefgh;person abcdefg;person a;person aa;");
        fault("person abcdefgh;person abcdefgh;", 3, 23);
        for (char letter = 'a'; letter <= 'z'; letter++) {
            StringBuilder text = new StringBuilder();
            for (int letters = 1; letters <= 6; letters++) {
                text.append("person ").append(("" + letter).repeat(letters)).append(";");
            }
            fits(text.toString());
            fits("person a" + letter + ";person b" + letter + ";person " + letter + "c;person " + letter + "d;person x" + letter + "y;");
        }
        fault("person Abc;", 1, 7);
        fault("person aBc;", 1, 8);
        fault("person a_b;", 1, 8);
        for (char outside : new char[] {'a' - 1, 'z' + 1, 'A', 'Z'}) {
            fault("person " + outside + ";", 1, 7);
        }
    }

    private static void words() {
        due.sentence("NAMES (letters a .. z, 8 at most, none of the words in quotes)");
        for (String word : WORDS) {
            fault("person " + word + ";", 1, 7);
            fits("person " + word + "x;");
            fits("person x" + word + ";");
            fits("person " + word.substring(0, word.length() - 1) + ";");
            fits("person " + word.substring(1) + ";");
            fault(LAND + "giving p a b 1 " + word + ";", 1, LAND.length() + 15);
            fault(word, 1, TELLS.contains(word) ? word.length() : 0);
        }
        for (String none : new String[] {"text", "tell", "law", "unit", "var", "name", "int", "part", "e", "or"}) {
            fits("person " + none + ";");
        }
    }

    private static void ints() {
        due.sentence("INTS (1 to 4 digits)");
        for (String digits : new String[] {"0", "9", "00", "10", "000", "100", "0000", "0009", "1000", "9999"}) {
            fits("seed " + digits + ";");
            fits("asks = " + digits + ";");
        }
        due.sentence("A longer one, all else, is no TOKEN.");
        for (String digits : new String[] {"00000", "00001", "10000", "99999", "123456", "4294967297", "18446744073709551617"}) {
            fault("seed " + digits + ";", 1, 5);
            fault("asks = 1 + " + digits + ";", 1, 11);
            fault("person a;plot p 1 " + digits + " a;", 1, 18);
        }
        fits("needs 0004;");
        fault("needs 0000;", 5, 6);
    }

    private static void signs() {
        due.sentence("SIGNS ; = + - * / < ( ) . A longer one, all else, is no TOKEN.");
        for (int b = 0; b < 256; b++) {
            if (isBlank(b) || isLetter(b) || isDigit(b)) {
                continue;
            }
            boolean goesOn = "+-*/".indexOf(b) >= 0;
            int place = b == ';' ? -1 : goesOn ? 10 : 9;
            fault("asks = 1 " + (char) b, b == ';' ? 0 : 1, place);
        }
        for (char sign : SIGNS.toCharArray()) {
            fault("" + sign, 1, 0);
        }
    }

    // ---- the grammar: behind each prefix, what a text can go on with

    private static void whatGoesOn() {
        due.sentence("1 SYNTAX: a TOKEN, or what is none, with which no text goes on.");
        behind("", TELLS);
        behind("person ", "NAME");
        behind("person a ", ";");
        behind("person a ; ", TELLS);
        behind("plot ", "NAME");
        behind("plot p ", "INT");
        behind("plot p 1 ", "INT");
        behind("plot p 1 2 ", "NAME");
        behind("plot p 1 2 a ", ";");
        behind("witness ", "NAME");
        behind("witness w ", "INT");
        behind("witness w 1 ", "INT");
        behind("witness w 1 2 ", ";");
        behind("giving ", "NAME");
        behind("giving p ", "NAME");
        behind("giving p a ", "NAME");
        behind("giving p a b ", "INT");
        behind("giving p a b 1 ", "NAME", ";");
        behind("giving p a b 1 w ", "NAME", ";");
        behind("giving p a b 1 w v ", "NAME", ";");
        behind("needs ", "INT");
        behind("needs 1 ", ";");
        behind("seed ", "INT");
        behind("seed 1 ", ";");
        for (String law : new String[] {"swears", "dies", "walks", "asks"}) {
            behindLaw(law + " ");
        }
    }

    private static void behindLaw(String law) {
        String[] unit = {"INT", "VAR", "("};
        String[] unitOrIf = {"INT", "VAR", "(", "if"};
        behind(law, "=");
        behind(law + "= ", unitOrIf);
        behind(law + "= 1 ", "+", "-", "*", "/", ";");
        behind(law + "= age ", "+", "-", "*", "/", ";");
        for (String sign : new String[] {"+", "-", "*", "/"}) {
            behind(law + "= 1 " + sign + " ", unit);
            behind(law + "= 1 " + sign + " 2 ", "+", "-", "*", "/", ";");
            behind(law + "= ( 1 " + sign + " ", unit);
            behind(law + "= ( 1 " + sign + " 2 ", "+", "-", "*", "/", ")");
        }
        behind(law + "= ( ", unit);
        behind(law + "= ( ( ", unit);
        behind(law + "= ( ( 1 ", "+", "-", "*", "/", ")");
        behind(law + "= ( ( 1 ) ", "+", "-", "*", "/", ")");
        behind(law + "= ( ( 1 ) ) ", "+", "-", "*", "/", ";");
        behind(law + "= if ", unit);
        behind(law + "= if 1 ", "+", "-", "*", "/", "<");
        behind(law + "= if ( 1 ", "+", "-", "*", "/", ")");
        behind(law + "= if 1 < ", unit);
        behind(law + "= if 1 < 2 ", "+", "-", "*", "/", "then");
        behind(law + "= if 1 < ( 2 ", "+", "-", "*", "/", ")");
        behind(law + "= if 1 < 2 then ", unit);
        behind(law + "= if 1 < 2 then 3 ", "+", "-", "*", "/", "else");
        behind(law + "= if 1 < 2 then ( 3 ", "+", "-", "*", "/", ")");
        behind(law + "= if 1 < 2 then 3 else ", unitOrIf);
        behind(law + "= if 1 < 2 then 3 else 4 ", "+", "-", "*", "/", ";");
        behind(law + "= if 1 < 2 then 3 else if ", unit);
        behind(law + "= if 1 < 2 then 3 else if 4 < 5 then 6 else ", unitOrIf);
        behind(law + "= 1 ; ", TELLS);
    }

    private static void behind(String prefix, String... kinds) {
        List<String> fitting = new ArrayList<>();
        for (String kind : kinds) {
            switch (kind) {
                case "NAME" -> fitting.add("zz");
                case "INT" -> fitting.add("7");
                case "VAR" -> fitting.addAll(VARS);
                default -> fitting.add(kind);
            }
        }
        behind(prefix, fitting);
    }

    private static void behind(String prefix, List<String> fitting) {
        List<String> all = new ArrayList<>(Arrays.asList(WORDS));
        all.addAll(Arrays.asList("zz", "7", "?", "abcdefghi", "12345", "A", "\u00e9", ".", ">", "\0"));
        for (char sign : SIGNS.toCharArray()) {
            all.add("" + sign);
        }
        for (String next : all) {
            TurfGiving x = new TurfGiving();
            String text = prefix + next;
            int number = Due.read(x, text);
            if (!fitting.contains(next)) {
                due.is("read of " + text, number, 1);
                due.is("place of " + text, x.place(), prefix.length());
            } else if (next.equals(";")) {
                due.is("syntax of " + text, number == 1 || number == 2, false);
            } else {
                due.is("read of " + text, number, 1);
                due.is("place of " + text, x.place(), text.length());
            }
        }
    }

    private static void emptyText() {
        due.sentence("text: {TELL}.");
        fits("");
        fits("\t\n\r ");
        TurfGiving x = Due.of(LAND);
        due.is("read of nothing", x.read(), 0);
        for (int what = 0; what <= 15; what++) {
            due.is("count " + what, x.count(what), what == 13 ? 1 : 0);
        }
        due.sentence("'giving' NAME NAME NAME INT {NAME} ';'");
        fits(LAND + "giving p a b 1;");
        fits(LAND + "giving p a b 1 w;");
        fits(LAND + "giving p a b 1 w v;");
    }

    // ---- what is told

    private static String numbered(String ahead, int from, int times, String behind) {
        StringBuilder text = new StringBuilder();
        for (int i = from; i < from + times; i++) {
            text.append(ahead).append((char) ('a' + i)).append(behind);
        }
        return text.toString();
    }

    private static void sortsFull() {
        due.sentence("PEOPLE, 6 at most (a NAME)");
        String people = numbered("person a", 0, 6, ";");
        due.is("six", Due.of(people).count(0), 6);
        fault(people + "person b;", 2, people.length());
        due.sentence("PLOTS, 7 at most");
        String plots = "person a;" + numbered("plot p", 0, 7, " 1 2 a;");
        due.is("seven", Due.of(plots).count(1), 7);
        due.is("the seventh", Due.of(plots).plot(6, 1), 2);
        fault(plots + "plot q 1 2 a;", 2, plots.length());
        due.sentence("WITNESSES, 7 at most");
        String witnesses = numbered("witness w", 0, 7, " 5 6;");
        due.is("seven", Due.of(witnesses).count(2), 7);
        due.is("alive", Due.of(witnesses).count(5), 127);
        due.is("the seventh", Due.of(witnesses).witness(6, 1), 6);
        fault(witnesses + "witness v 1 2;", 2, witnesses.length());
        due.sentence("GIVINGS, 12 at most");
        String givings = LAND + "giving p a b 1 w v;".repeat(12);
        due.is("twelve", Due.of(givings).count(3), 12);
        due.is("the twelfth", Due.of(givings).giving(11, 4), 3);
        fault(givings + "giving p a b 1 w v;", 2, givings.length());
    }

    private static void numberedAsTheyStand() {
        due.sentence("numbered each from 0 on as they stand");
        TurfGiving x = Due.of("witness z 1 11;person y;plot x 1 0 y;person w;witness v 2 12;plot u 2 0 w;"
                + "giving u w y 5 v;witness t 3 13;plot s 3 0 y;giving x y w 6 t z;");
        int[][] plots = {{1, 0}, {2, 1}, {3, 0}};
        for (int plot = 0; plot < 3; plot++) {
            due.is("x " + plot, x.plot(plot, 0), plots[plot][0]);
            due.is("whose " + plot, x.plot(plot, 2), plots[plot][1]);
        }
        for (int witness = 0; witness < 3; witness++) {
            due.is("age " + witness, x.witness(witness, 0), witness + 1);
            due.is("memory " + witness, x.witness(witness, 1), witness + 11);
        }
        int[][] givings = {{1, 1, 0, 5, 2}, {0, 0, 1, 6, 5}};
        for (int giving = 0; giving < 2; giving++) {
            for (int what = 0; what < 5; what++) {
                due.is("giving " + giving + " " + what, x.giving(giving, what), givings[giving][what]);
            }
        }
    }

    private static void range(String ahead, String behind, int least, int most) {
        int[] numbers = {0, 1, 4, 5, 9, 10, 50, 99, 100, 101, 999, 9999};
        for (int number : numbers) {
            boolean so = number >= least && number <= most;
            fault(ahead + number + behind, so ? 0 : 5, so ? -1 : ahead.length());
        }
    }

    private static void rangesOfInts() {
        due.sentence("(a NAME, X, Y 0 .. 9 each, the PERSON whose it is at first)");
        range("person a;plot p ", " 5 a;", 0, 9);
        range("person a;plot p 5 ", " a;", 0, 9);
        due.sentence("(a NAME, AGE 0 .. 99, MEMORY 0 .. 99)");
        range("witness w ", " 50;", 0, 99);
        range("witness w 50 ", ";", 0, 99);
        due.sentence("how many years ago it was 0 .. 99");
        range(LAND + "giving p a b ", " w;", 0, 99);
        range(LAND + "giving p a b ", ";", 0, 99);
        due.sentence("NEEDS 1 .. 4: how many must swear (1)");
        range("needs ", ";", 1, 4);
        due.sentence("SEED 0 .. 9999 (0)");
        range("seed ", ";", 0, 9999);
        due.sentence("UNIT: INT | VAR | '(' E ')'.");
        range("asks = ", ";", 0, 9999);
    }

    private static void lawsIfNotTold() {
        due.sentence("LAWS: SWEARS (memory less since), DIES (0), WALKS (far), ASKS (1), if not told; the last one.");
        TurfGiving x = Due.of(LAND + "giving p a b 8 v;giving p a b 9 v;giving p a b 10 v;");
        due.is("memory 9, since 8, 9, 10", x.count(6), 1);
        due.is("dies", x.witness(0, 4), 0);
        due.is("walks", x.walk(0, 1), 4);
        due.is("asks", x.asks(1), 1);
        TurfGiving y = Due.of(LAND + "giving p a b 9 v;swears=0;dies=1;walks=2;asks=3;swears=1;dies=4;walks=5;asks=6;");
        due.is("the last one", y.count(6), 1);
        due.is("the last one", y.witness(0, 4), 4);
        due.is("the last one", y.walk(0, 1), 5);
        due.is("the last one", y.asks(0), 6);
        TurfGiving z = new TurfGiving();
        Due.read(z, LAND + "swears=0;dies=1;walks=2;asks=3;");
        Due.read(z, LAND + "giving p a b 8 v;");
        due.is("not of the text ahead", z.count(6), 1);
        due.is("not of the text ahead", z.witness(0, 4), 0);
        due.is("not of the text ahead", z.walk(0, 1), 4);
        due.is("not of the text ahead", z.asks(0), 1);
        for (int between = 0; between < 3; between++) {
            Due.read(z, LAND + "dies=1;walks=2;asks=3;swears=0;needs 4;seed 7;");
            for (int i = 0; i < between; i++) {
                Due.read(z, "");
            }
            Due.read(z, LAND + "giving p a b 8 v;");
            due.is("nor of the one ahead of it", z.count(6), 1);
            due.is("nor of the one ahead of it", z.witness(0, 4), 0);
            due.is("nor of the one ahead of it", z.walk(0, 1), 4);
            due.is("nor of the one ahead of it", z.asks(0), 1);
            due.is("nor of the one ahead of it", z.count(13), 1);
        }
    }

    private static void needsAndSeedTheLast() {
        due.sentence("NEEDS 1 .. 4: how many must swear (1), SEED 0 .. 9999 (0): the last one.");
        due.is("needs not told", Due.of(LAND).count(13), 1);
        due.is("the last one", Due.of("needs 4;needs 2;needs 3;").count(13), 3);
        due.is("the last one", Due.of("needs 3;" + LAND + "needs 2;").count(13), 2);
        String dying = "witness u 1 1;witness v 1 1;witness w 1 1;dies = 4;";
        // LOT 100 in year 0: SEED 0: 2 for u; SEED 7: 62 3 94
        TurfGiving x = Due.of(dying);
        x.years(1);
        due.is("seed not told", x.count(5), 0b110);
        x = Due.of(dying + "seed 0;");
        x.years(1);
        due.is("seed 0", x.count(5), 0b110);
        x = Due.of("seed 0;seed 9999;" + dying + "seed 7;");
        x.years(1);
        due.is("the last one", x.count(5), 0b101);
        for (int i = 0; i < 3; i++) {
            Due.read(x, dying);
            x.years(1);
            due.is("not that of a text ahead", x.count(5), 0b110);
        }
    }

    // ---- FAULTS

    private static void placeOfTheEnd() {
        due.sentence("the first by its place (a byte; the text's end: its length)");
        fault("person", 1, 6);
        fault("person ", 1, 7);
        fault("person a \n", 1, 10);
        fault("asks = (1 ", 1, 10);
        fault(blanksOf(1992) + "person a", 1, 2000);
        fault("?", 1, 0);
        fault("\n\n?", 1, 2);
        fault("person a;person ?;person !;", 1, 16);
        fault("person a;person ;" + "person a;".repeat(9), 1, 16);
        fault("person a;".repeat(9) + "?", 2, 54);
        fault("person a;".repeat(6) + "?" + "person a;", 1, 54);
    }

    /** A text of so many TOKENS, all right. */
    private static String ofTokens(int many) {
        int fours = many % 3;
        return "asks=1;".repeat(fours) + "seed 1;".repeat((many - 4 * fours) / 3);
    }

    private static void syntaxAheadOfRoom() {
        due.sentence("of one place the least");
        String full = ofTokens(400);
        fault(full + "?", 1, full.length());
        fault(full + ";", 1, full.length());
        fault(full + "a", 1, full.length());
        fault(full + "if", 1, full.length());
        String nearlyFull = ofTokens(399);
        fault(nearlyFull + "person person", 1, nearlyFull.length() + 7);
        fault(nearlyFull + "person abcdefghi", 1, nearlyFull.length() + 7);
        fault(nearlyFull + "person", 1, nearlyFull.length() + 6);
        // a 7th ( or a 5th if where none can stand
        fault("asks = ((((((1(", 1, 14);
        fault("asks = " + "if 1 < 2 then 3 else ".repeat(4) + "1 if", 1, 7 + 4 * 21 + 2);
    }

    private static void tokens401() {
        due.sentence("2 ROOM: a 401st TOKEN");
        String[][] tells = {{"person", "a", ";"}, {"plot", "p", "1", "2", "a", ";"}, {"witness", "w", "1", "2", ";"},
            {"giving", "p", "a", "b", "1", ";"}, {"giving", "p", "a", "b", "1", "w", "v", ";"}, {"needs", "1", ";"},
            {"seed", "1", ";"}, {"asks", "=", "1", ";"},
            {"dies", "=", "if", "(", "1", ")", "<", "age", "then", "3", "*", "2", "else", "if", "1", "<", "2", "then",
                "(", "year", "-", "1", ")", "/", "4", "else", "5", "+", "6", ";"}};
        for (String[] tell : tells) {
            for (int at = 0; at < tell.length; at++) {
                String ahead = ofTokens(400 - at) + " ";
                String whole = ahead + String.join(" ", tell);
                int place = ahead.length() + String.join(" ", Arrays.copyOf(tell, at)).length() + (at > 0 ? 1 : 0);
                fault(whole, 2, place);
                fault(whole.substring(0, place + tell[at].length()), 2, place);
                fault(whole.substring(0, place) + "?", 1, place);
            }
            String last = ofTokens(400 - tell.length) + String.join(" ", tell);
            TurfGiving x = new TurfGiving();
            due.is("400 TOKENS with " + String.join(" ", tell), Due.read(x, last) == 2, false);
            due.is("400 TOKENS with " + String.join(" ", tell), Due.read(x, last) == 1, false);
        }
        fits(ofTokens(399));
        fits(ofTokens(400));
        fits(ofTokens(400) + "  ");
        fault(ofTokens(401), 2, ofTokens(401).lastIndexOf(';'));
    }

    private static void oneMoreOfASort() {
        due.sentence("one more of a sort than told (at its first TOKEN)");
        String full = numbered("person a", 0, 6, ";") + numbered("plot p", 0, 7, " 1 2 aa;")
                + numbered("witness w", 0, 7, " 5 6;") + "giving pa aa ab 1 wa wb;".repeat(12);
        fits(full);
        for (String sort : new String[] {"person", "plot", "witness", "giving"}) {
            fault(full + sort, 2, full.length());
            fault(full + "  " + sort + " ? ", 2, full.length() + 2);
            fault(full + "seed 1;" + sort, 2, full.length() + 7);
            fault(full + "seed;" + sort, 1, full.length() + 4);
        }
        fits(full + "seed 1;needs 1;".repeat(5));
        // a NAME told twice is no FAULT of the first look
        fault("person a;".repeat(7), 2, 54);
        fault("person a;".repeat(6), 3, 16);
    }

    private static void fifthIf() {
        due.sentence("a 5th if of a LAW (at it)");
        String branch = "if 1 < 2 then 3 else ";
        for (String law : new String[] {"swears", "dies", "walks", "asks"}) {
            String ahead = law + " = ";
            for (int ifs = 0; ifs <= 6; ifs++) {
                String text = ahead + branch.repeat(ifs) + "4;";
                fault(text, ifs <= 4 ? 0 : 2, ifs <= 4 ? -1 : ahead.length() + 4 * branch.length());
            }
            fault(ahead + branch.repeat(4) + "if", 2, ahead.length() + 4 * branch.length());
            fits(ahead + branch.repeat(4) + "4;" + ahead + branch.repeat(4) + "5;");
        }
    }

    private static void seventhBracket() {
        due.sentence("a 7th ( within one another (at it)");
        for (int deep = 0; deep <= 9; deep++) {
            String open = "(".repeat(deep);
            String close = ")".repeat(deep);
            String ahead = "asks = ";
            fault(ahead + open + "1" + close + ";", deep <= 6 ? 0 : 2, deep <= 6 ? -1 : ahead.length() + 6);
            ahead = "asks = if ";
            fault(ahead + open + "1" + close + " < 2 then 3 else 4;", deep <= 6 ? 0 : 2, deep <= 6 ? -1 : ahead.length() + 6);
            ahead = "asks = if 1 < ";
            fault(ahead + open + "1" + close + " then 3 else 4;", deep <= 6 ? 0 : 2, deep <= 6 ? -1 : ahead.length() + 6);
            ahead = "asks = if 1 < 2 then ";
            fault(ahead + open + "1" + close + " else 4;", deep <= 6 ? 0 : 2, deep <= 6 ? -1 : ahead.length() + 6);
            ahead = "asks = ((1) + ((2))) * ";
            fault(ahead + open + "1" + close + ";", deep <= 6 ? 0 : 2, deep <= 6 ? -1 : ahead.length() + 6);
        }
        String six = "((((((1))))))";
        fits("asks = " + six + " + " + six + " * " + six + ";dies = " + six + ";");
        fits("asks = ((((((1) + (2)))) + (((3)))));");
        fault("asks = (1 * (2 + (3 * (4 + (5 * (6 + (7", 2, 37);
        fault("asks = ((((((1) * ((", 2, 19);
        fault("asks = ((((((1))))) * (((((((", 2, 27);
        fault("asks = (((((((", 2, 13);
    }

    private static void secondLook() {
        due.sentence("If there is none, likewise");
        fault("person a;person a;needs 0;plot p 1 1 z;?", 1, 39);
        fault("needs 0;person a;person a;" + "seed 1;".repeat(131), 2, 26 + 130 * 7 + 5);
        fault("person a;person a;needs 0;plot p 1 1 z;", 3, 16);
        fault("needs 0;person a;person a;plot p 1 1 z;", 5, 6);
        fault("plot p 1 1 z;needs 0;person a;person a;", 4, 11);
        fault("plot p 10 1 z;", 5, 7);
        fault("plot p 1 10 z;", 5, 9);
        fault("person p;plot p 10 10 z;", 3, 14);
        fault(LAND + "giving z a a 100 w w;", 4, LAND.length() + 7);
        fault(LAND + "giving p z z 100 w w;", 4, LAND.length() + 9);
        fault(LAND + "giving p a a 100 w w;", 3, LAND.length() + 11);
        fault(LAND + "giving p a b 100 w w;", 5, LAND.length() + 13);
        fault(LAND + "giving p a b 99 w w z;", 3, LAND.length() + 18);
        fault(LAND + "giving p a b 99 z w w;", 4, LAND.length() + 16);
    }

    private static void twiceAllTogether() {
        due.sentence("3 TWICE: a NAME told already (all together)");
        String[] tells = {"person x;", "plot x 1 1 h;", "witness x 1 1;"};
        String ahead = "person h;";
        for (String first : tells) {
            for (String second : tells) {
                int place = ahead.length() + first.length() + second.indexOf(" ") + 1;
                fault(ahead + first + second, 3, place);
                fault(ahead + first + "person y;" + second, 3, place + 9);
            }
        }
        fault("person x;person x;person x;", 3, 16);
        // what the text ahead told is no matter
        TurfGiving x = Due.of("person x;");
        due.is("read", Due.read(x, "witness x 1 1;"), 0);
    }

    private static void twiceInAGiving() {
        due.sentence("(at it) a WITNESS of a GIVING twice, who gets it the same as who gives it.");
        int at = LAND.length();
        fault(LAND + "giving p a b 1 w w;", 3, at + 17);
        fault(LAND + "giving p a b 1 w v w v;", 3, at + 19);
        fault(LAND + "giving p a b 1 v w w;", 3, at + 19);
        fault(LAND + "giving p a b 1 w;giving p a b 1 w v v;", 3, at + 36);
        fits(LAND + "giving p a b 1 w v;giving p a b 1 v w;");
        fault(LAND + "giving p a a 1;", 3, at + 11);
        fault(LAND + "giving p b b 1;", 3, at + 11);
        fits(LAND + "giving p b a 1;giving p a b 1;");
        String seven = "person a;person b;plot p 1 1 a;" + numbered("witness w", 0, 7, " 5 6;");
        fits(seven + "giving p a b 1 wg wf we wd wc wb wa;");
        fault(seven + "giving p a b 1 wg wf we wd wc wb wa wg;", 3, seven.length() + 36);
    }

    private static void noSuchName() {
        due.sentence("4 NAME: (at it) no such PERSON, PLOT, WITNESS told ahead");
        int at = LAND.length();
        for (String wrong : new String[] {"z", "p", "w"}) {
            fault(LAND + "plot x 1 1 " + wrong + ";", 4, at + 11);
            fault(LAND + "giving p " + wrong + " b 1;", 4, at + 9);
            fault(LAND + "giving p a " + wrong + " 1;", 4, at + 11);
        }
        for (String wrong : new String[] {"z", "a", "w"}) {
            fault(LAND + "giving " + wrong + " a b 1;", 4, at + 7);
        }
        for (String wrong : new String[] {"z", "a", "p"}) {
            fault(LAND + "giving p a b 1 " + wrong + ";", 4, at + 15);
            fault(LAND + "giving p a b 1 w " + wrong + ";", 4, at + 17);
        }
        for (String wrong : new String[] {"zz", "ab", "zzzzzzzz", "aaaaaaaa"}) {
            fault(LAND + "plot x 1 1 " + wrong + ";", 4, at + 11);
            fault(LAND + "giving " + wrong + " a b 1;", 4, at + 7);
            fault(LAND + "giving p " + wrong + " b 1 w;", 4, at + 9);
            fault(LAND + "giving p a " + wrong + " 1 w w;", 4, at + 11);
            fault(LAND + "giving p a " + wrong + " 100;", 4, at + 11);
            fault(LAND + "giving p a b 1 " + wrong + " " + wrong + ";", 4, at + 15);
        }
        fault("plot p 1 1 a;person a;", 4, 11);
        fault("plot p 1 1 p;", 4, 11);
        fault(LAND + "giving x a b 1;plot x 1 1 a;", 4, at + 7);
        fault(LAND + "giving p a b 1 x;witness x 1 1;", 4, at + 15);
        fault(LAND + "giving p a x 1;person x;", 4, at + 11);
        // what only the text ahead told is no such one
        TurfGiving x = Due.of(LAND);
        due.is("read", Due.read(x, "plot x 1 1 a;"), 4);
        due.is("place", x.place(), 11);
    }

    private static void theFirstOne() {
        due.sentence("(a NAME told more than once is that of the first one)");
        fault("person a;plot a 1 1 a;", 3, 14);
        fault("person a;person b;plot p 1 1 a;witness p 1 1;giving p a b 1 p;", 3, 39);
    }

    private static void wrongAtTheInt() {
        due.sentence("5 WRONG (at the INT): a number not as told above.");
        fault("person a;plot p 10 10 a;", 5, 16);
        fault("person a;plot p 9 10 a;", 5, 18);
        fault("witness w 100 100;", 5, 10);
        fault("witness w 99 100;", 5, 13);
        fault("needs  5;", 5, 7);
        fault("needs 0;needs 1;", 5, 6);
        fault("needs 1;needs 0;", 5, 14);
        fault(LAND + "giving p a b  100;", 5, LAND.length() + 14);
        fits("swears = 9999;dies = 9999;walks = 9999;asks = 9999;");
    }

    private static TurfGiving livedIn() {
        TurfGiving x = Due.of(LAND + "giving p a b 3 w v;giving q b a 4 v;dies = age / 3;seed 77;needs 1;asks = 4;");
        x.years(1);
        x.give(0, 1, 0, 1);
        x.hold(1);
        x.unsay(1, true);
        x.years(2);
        x.tell(0, true);
        x.tell(1, false);
        return x;
    }

    private static String withoutPlace(TurfGiving x) {
        return Look.at(x).replaceFirst("place -?\\d+", "");
    }

    private static void faultChangesNothing() {
        due.sentence("A text with a FAULT changes nothing but the tape");
        String ahead = "person zz;person yy;plot xx 1 1 zz;witness ww 1 1;giving xx zz yy 1 ww;needs 3;seed 9;swears=0;dies=100;walks=50;asks=60;";
        String[][] wrongs = {{"?", "person", "person c", "plot t 1", "asks = ((1", "asks = if 1 < 2 then", "giving xx zz yy 1 ww", ";", "12345"},
            {"person c;".repeat(7), "plot c 1 1 zz;".repeat(7), "witness c 1 1;".repeat(7), "giving xx zz yy 1;".repeat(12), "asks=(((((((",
                "seed 1;".repeat(121), "asks = " + "if 1 < 2 then 3 else ".repeat(5)},
            {"person zz;", "person xx;", "person ww;", "plot zz 1 1 zz;", "plot xx 1 1 zz;", "plot ww 1 1 zz;", "witness zz 1 1;",
                "witness xx 1 1;", "witness ww 1 1;", "giving xx zz zz 1;", "giving xx zz yy 1 ww ww;"},
            {"plot tt 1 1 vv;", "plot tt 1 1 xx;", "giving vv zz yy 1;", "giving xx vv yy 1;", "giving xx zz vv 1;", "giving xx zz yy 1 vv;",
                "giving xx zz yy 1 ww vv;", "giving zzzzzzzz zz yy 1;", "giving xx aaaaaaaa yy 1;", "giving xx zz aaaaaaaa 1 ww;"},
            {"needs 0;", "needs 5;", "plot tt 10 1 zz;", "plot tt 1 10 zz;", "witness vv 100 1;", "witness vv 1 100;", "giving xx zz yy 100 ww;"}};
        String same = withoutPlace(livedIn());
        TurfGiving all = livedIn();
        for (int i = 0; i < wrongs.length; i++) {
            for (String wrong : wrongs[i]) {
                TurfGiving x = livedIn();
                due.is("read of " + wrong, Due.read(x, ahead + wrong), i + 1);
                due.is("place of " + wrong, x.place() >= ahead.length(), true);
                // place() is of the latest read: all else must be as if there had been none
                due.is("behind " + wrong, withoutPlace(x), same);
            }
            Due.read(all, ahead + wrongs[i][0]);
        }
        due.is("behind one of each", withoutPlace(all), same);
    }

    private static void inPlaceOfTheOneAhead() {
        due.sentence("else it is in place of the one ahead: year 0, all WITNESSES alive; nothing can be undone, nothing is"
                + " TOLD, SLOTS hold nothing.");
        String[] texts = {"", LAND, LAND + "giving q b a 7 w;needs 2;", "witness u 3 4;person g;"};
        for (String text : texts) {
            TurfGiving x = livedIn();
            x.years(60);
            x.hold(0);
            x.hold(2);
            due.is("read", Due.read(x, text), 0);
            due.is("year", x.count(4), 0);
            due.is("alive", x.count(5), (1 << x.count(2)) - 1);
            due.is("undone", x.count(10), 0);
            due.is("told", x.count(11), 0);
            due.is("slots", x.count(12), 0);
            due.is("text " + text, Look.at(x), Look.at(Due.of(text)));
        }
        TurfGiving x = livedIn();
        Due.read(x, LAND);
        due.is("undo", x.undo(), false);
        due.is("restore 1", x.restore(1), false);
        due.is("which", x.which(1, 0), -1);
    }

    private static final String FULL = numbered("person a", 0, 6, ";") + numbered("plot p", 0, 7, " 1 2 aa;") + numbered("witness w", 0, 7, " 5 60;")
            + "giving pa aa ab 1 wa wb;".repeat(11) + "giving pg aa af 1 wg;";

    /** A full text again and again: what one read had counted is no matter to the next. */
    private static void fullAgainAndAgain() {
        due.sentence("else it is in place of the one ahead");
        TurfGiving x = new TurfGiving();
        for (int i = 0; i < 4; i++) {
            due.is("read", Due.read(x, FULL), 0);
            int[] counts = {6, 7, 7, 12, 0, 127, 4095, 0b100000000001, 0, 0, 0, 0, 0, 1, 2, 23};
            for (int what = 0; what < counts.length; what++) {
                due.is("count " + what, x.count(what), counts[what]);
            }
            due.is("the last plot, by the last person and witness", x.plot(6, 3), 5);
        }
        due.sentence("2 ROOM: a 401st TOKEN; one more of a sort than told (at its first TOKEN)");
        for (String sort : new String[] {"person", "plot", "witness", "giving"}) {
            due.is("one more", Due.read(x, FULL + sort), 2);
            due.is("place", x.place(), FULL.length());
            due.is("read", Due.read(x, FULL), 0);
        }
    }

    /** A text that breaks off anywhere, and the whole of it behind: the first leaves nothing that would matter. */
    private static void brokenOffAndWhole() {
        due.sentence("A text with a FAULT changes nothing but the tape");
        String law = "asks = if ((1 + 2) * 3 - (4)) < 2 * (3 + 1) then ((((((1 + 1)))))) * 2 else if 1 < 2 then 3 else (down - 1) * (4 / 2) + 5;";
        String text = "person a;person b;plot p 1 2 a;witness w 5 9;giving p a b 1 w;" + law + "needs 2;";
        String due1 = Look.at(Due.of(text));
        for (int length = 0; length < text.length(); length++) {
            TurfGiving x = new TurfGiving();
            Due.read(x, text.substring(0, length));
            due.is("whole behind " + length, Due.read(x, text), 0);
            due.is("whole behind " + length, Look.at(x), due1);
        }
    }
}
