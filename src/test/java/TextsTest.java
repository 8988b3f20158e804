/** Promises 32 to 38: feed, text, wipe, drop, must, may, why. */
public final class TextsTest {
    private static final Due due = new Due();

    public static void main(String[] args) {
        feed();
        textOfDays();
        goodTexts();
        faults();
        limits();
        longestText();
        lastTextAndClause();
        whatAFaultLeaves();
        whatWasWiped();
        wipe();
        drop();
        kindsAbove();
        tests();
        longNumbers();
        ands();
        greatestTextFirst();
        days();
        none();
        due.end();
    }

    private static String repeat(String signs, int n) {
        StringBuilder all = new StringBuilder();
        for (int i = 0; i < n; i++) all.append(signs);
        return all.toString();
    }

    private static void feed() {
        GhostCoast x = new GhostCoast();
        due.is("n 0", x.feed(1, 0), Due.BEYOND);
        due.is("n 5", x.feed(1, 5), Due.BEYOND);
        due.is("n -1", x.feed(1, -1), Due.BEYOND);
        due.is("lowest bytes, the highest first", x.feed(0x7F626172, 3), 3);
        due.is("one byte", x.feed(0x12345620, 1), 4);
        due.is("four bytes", x.feed(0x6E657420, 4), 8);
        due.is("two bytes", x.feed(0xFFFF6966, 2), 10);
        // The tape is 'bar net if', and wants a blank and a test.
        due.is("read", x.text(0, 0), -11);
        for (int n = 14; n <= 118; n += 4) x.feed(0, 4);
        due.is("bytes", x.count(12), 118);
        due.is("no room for 3", x.feed(0, 3), Due.FULL);
        due.is("n 5, no room", x.feed(0, 5), Due.BEYOND);
        due.is("room for 2", x.feed(0, 2), 120);
        due.is("no room for 1", x.feed(0, 1), Due.FULL);
    }

    private static void textOfDays() {
        GhostCoast x = new GhostCoast();
        Due.feed(x, "may net");
        due.is("from -1", x.text(-1, 0), Due.BEYOND);
        due.is("to 81", x.text(0, 81), Due.BEYOND);
        due.is("from 81", x.text(81, 81), Due.BEYOND);
        due.is("from above to", x.text(5, 4), Due.BEYOND);
        due.is("the tape stays", x.count(12), 7);
        due.is("text", x.text(80, 80), 0);
        due.is("the tape is empty", x.count(12), 0);
        due.is("a fault", x.text(0, 0), -1);
        for (int i = 1; i < 8; i++) due.is("text", Due.text(x, "must show", 0, 80), i);
        due.is("full, and a fault", x.text(0, 80), Due.FULL);
        due.is("full, and beyond", x.text(1, 0), Due.BEYOND);
        Due.feed(x, "may net");
        due.is("full", x.text(0, 80), Due.FULL);
        due.is("the tape stays when full", x.count(12), 7);
        due.is("texts", x.count(4), 8);
    }

    private static void goodTexts() {
        String[] good = {"must show", "may dummy;bar camp", "bar net if day=1", "may voice if !hour<0023",
            "bar paper if hands>1&story=2|cell<95&!day=0", "must quiet;may show if cell=1|cell=2|cell=3|cell=4;bar net",
            "bar show;bar show;bar show;bar show;bar show;bar show"};
        for (String text : good) due.is(text, Due.text(new GhostCoast(), text, 0, 80), 0);
    }

    /** A '^' stands ahead of the byte with the fault, or at the end of what ends too early. */
    private static void faults() {
        String[] bad = {"^", "^x", "^Must show", "m^ot", "mu^", "mus^ show", "must^;", "must^show", "must ^ show",
            "must ^x", "must s^tow", "must show^x", "must show ^x", "must show i^", "must show if^", "must show if ^",
            "must show if^;", "must show if ^ day=1", "must show if d^", "must show if day^", "must show if day^ =1",
            "must show if day=^", "must show if day=^x", "must show if day=1^x", "must show if day=1^ ",
            "may show if day=^-1", "must show if !^!day=1", "must show if ho^t=1", "must show if ha^y=1",
            "must show if hour=1&^", "must show if hour=1|^&", "must show if hour=1^=", "must show if hour^;",
            "must show;^", "must show;^;", "must show;^ may net", "may show if story=1;must net ^", "bar^d show", "ba^",
            "may ^", "may qui^t", "may ^\u00e9", "ma^x show", "must show^s", "may show if day<1234^5",
            "may show if day^!=1", "may show if day^5", "may show if ^5=1", "may show if hour^12;",
            "may show if ^=1", "may show if da^=1", "may show if !^=1", "may show if ha^=1", "may ^;", "^;may show",
            "may^|", "may show ^|", "may show^&", "may show if story^", "may show if hands>9999^0", "may show if ^|day=1",
            "may show if day=1|^", "may show if !day=1&!^", "bar paper;may camp;mu^y", "may show;may show;may^",
            "may show if cell=^;", "may show if day=1;^ ", "may show^\0", "^\0", "may show if day=1^\u00b1",
            "may show if day=^/", "may show if day=^:", "may show if day=1^/", "may show if day=1^:"};
        for (String told : bad) {
            int at = told.indexOf('^');
            String text = told.substring(0, at) + told.substring(at + 1);
            GhostCoast x = new GhostCoast();
            Due.feed(x, text);
            due.is("fault of '" + told + "'", x.text(0, 0), -1 - at);
            due.is("the tape stays", x.count(12), text.length());
            due.is("no text", x.count(4), 0);
            due.is("a fault is no finding", x.status(-1), 0);
        }
    }

    private static void limits() {
        String six = "may net;may net;may net;may net;may net;may net";
        due.is("a seventh clause", Due.text(new GhostCoast(), six + ";may net", 0, 0), -1 - six.length());
        due.is("a seventh clause is not even begun", Due.text(new GhostCoast(), six + ";", 0, 0), -1 - six.length());
        String four = "may net if day=1&day=2|day=3&day=4";
        due.is("a fifth test by &", Due.text(new GhostCoast(), four + "&day=5", 0, 0), -1 - four.length());
        due.is("a fifth test by |", Due.text(new GhostCoast(), four + "|", 0, 0), -1 - four.length());
        due.is("tests of another clause", Due.text(new GhostCoast(), four + ";" + four, 0, 0), 0);
        String most = "may camp if day=1111&day=1111&day=1111&day=1111";
        String all = most + ";" + most + ";" + "bar show if cell=00000".substring(0, 21);
        due.is("long texts are as long as the tape", Due.text(new GhostCoast(), all, 0, 0), 0);
        GhostCoast x = new GhostCoast();
        Due.feed(x, repeat("bar net;", 15));
        due.is("120 bytes", x.count(12), 120);
        due.is("fault of 120 bytes", x.text(0, 0), -1 - 47);
    }

    /** As long as THE TAPE, 120 bytes: a text, one with a fault at its last byte, one that ends too early. */
    private static void longestText() {
        String most = "bar camp if day=1111&day=1111&day=1111&day=1111";
        String start = most + ";" + most + ";bar voice if !hands>";
        GhostCoast x = new GhostCoast();
        Due.feed(x, start + "1234");
        due.is("120 bytes", x.count(12), 120);
        due.is("no room for one more", x.feed('5', 1), Due.FULL);
        due.is("a text", x.text(0, 0), 0);
        due.is("a fault at the last byte", Due.text(x, start + "123x", 0, 0), -1 - 119);
        due.is("it ends too early", Due.text(x, start + "123&", 0, 0), -1 - 120);
        due.is("a text of one byte less", Due.text(x, start + "123", 0, 0), 1);
        due.is("119 bytes that end too early", Due.text(x, start + "12|", 0, 0), -1 - 119);
    }

    /** The sixth clause of the eighth text, with tests in each. */
    private static void lastTextAndClause() {
        GhostCoast x = new GhostCoast();
        for (int i = 0; i < 8; i++) {
            StringBuilder six = new StringBuilder();
            for (int c = 0; c < 6; c++) {
                if (c > 0) six.append(';');
                six.append(c == 5 ? "bar" : "may").append(" net if hour=").append(c);
            }
            due.is("text of six", Due.text(x, six.toString(), 0, i), i);
        }
        x.show(3, 0, 0);
        for (int hour = 0; hour < 6; hour++) {
            due.is("its clause at " + hour, x.why(0), 70 + hour);
            due.is("it may", x.may(0), hour == 5 ? 0 : 1);
            x.tick(1);
        }
        due.is("none is about it", x.why(0), Due.NONE);
        x.tick(21);
        due.is("on day 1 text 7 again", x.why(0), 73);
        x.drop(7);
        due.is("then text 6", x.why(0), 63);
        for (int text = 1; text < 7; text++) x.drop(text);
        due.is("text 0 is of day 0", x.why(0), Due.NONE);
    }

    /** What was read up to a fault is in no force, and nothing of it is in the next text. */
    private static void whatAFaultLeaves() {
        GhostCoast x = new GhostCoast();
        x.show(0, 0, 0);
        due.is("a clause and a fault", Due.text(x, "bar show;x", 0, 80), -10);
        due.is("it bars nothing", x.may(0), 1);
        due.is("no clause", x.why(0), Due.NONE);
        due.is("tests and a fault", Due.text(x, "bar show if day=1|day=2;must show if !day=0&hour=3x", 0, 80), -51);
        due.is("a text without tests", Due.text(x, "bar show", 0, 80), 0);
        due.is("it bars", x.may(0), 0);
        due.is("two clauses and a fault", Due.text(x, "may show;may show;", 0, 80), -19);
        due.is("a text of one clause", Due.text(x, "bar net", 0, 80), 1);
        due.is("the second isn't there", x.why(0), 0);
        GhostCoast y = new GhostCoast();
        y.show(0, 0, 0);
        for (int i = 0; i < 8; i++) Due.text(y, "must show", 0, 80);
        due.is("eight", y.why(0), 70);
    }

    /** Of a text that was wiped nothing is read behind a shorter one. */
    private static void whatWasWiped() {
        String words = "bar quiet if !hands>34";
        GhostCoast x = new GhostCoast();
        for (int n = 0; n < words.length() - 1; n++) {
            Due.feed(x, words);
            x.wipe();
            boolean isText = n == "bar quiet".length();
            due.is("'" + words.substring(0, n) + "'", Due.text(x, words.substring(0, n), 0, 0), isText ? 0 : -1 - n);
        }
    }

    private static void wipe() {
        GhostCoast x = new GhostCoast();
        due.is("wipe nothing", x.wipe(), 0);
        x.feed(0, 3);
        due.is("wipe", x.wipe(), 3);
        due.is("wiped", x.count(12), 0);
        Due.feed(x, "may show");
        x.wipe();
        Due.feed(x, "may");
        due.is("what was wiped is not read", x.text(0, 0), -4);
        x.wipe();
        due.is("feed anew", x.feed(0, 2), 2);
    }

    private static void drop() {
        GhostCoast x = new GhostCoast();
        x.show(0, 0, 0);
        due.is("drop of none", x.drop(0), Due.BEYOND);
        Due.text(x, "must show", 0, 80);
        Due.text(x, "bar show", 0, 80);
        due.is("barred", x.may(0), 0);
        due.is("drop -1", x.drop(-1), Due.BEYOND);
        due.is("drop 2", x.drop(2), Due.BEYOND);
        due.is("drop", x.drop(1), 1);
        due.is("drop again", x.drop(1), Due.STATE);
        due.is("not barred", x.may(0), 1);
        due.is("must by the other", x.must(0), 1);
        due.is("a void one keeps its number", x.count(4), 2);
        due.is("the next", Due.text(x, "bar net", 0, 80), 2);
    }

    private static void kindsAbove() {
        String[] words = {"show", "dummy", "camp", "net", "voice", "paper", "quiet"};
        for (int word = 0; word < 7; word++) {
            GhostCoast x = new GhostCoast();
            x.unit(0, 1);
            for (int kind = 0; kind < 7; kind++) x.show(kind, 0, 0);
            Due.text(x, "must " + words[word], 0, 0);
            for (int kind = 0; kind < 7; kind++) {
                boolean is = word == 0 || kind == word || kind == 2 && word == 1;
                due.is("must " + words[word] + " of kind " + kind, x.must(kind), is ? 1 : 0);
                due.is("may of kind " + kind, x.may(kind), 1);
            }
        }
    }

    /** A show of story 2 in cell 7 with 5 hands, on day 3 at time 4. */
    private static void tests() {
        String[] so = {"day=3", "day>2", "day<4", "hour=4", "hour>3", "hour<5", "hands=5", "hands>4", "hands<6",
            "story=2", "story>1", "story<3", "cell=7", "cell>6", "cell<8", "day=0003", "!day=2", "cell<9999"};
        String[] not = {"day=2", "day>3", "day<3", "hour=5", "hour>4", "hour<4", "hands=4", "hands>5", "hands<5",
            "story=1", "story>2", "story<2", "cell=6", "cell>7", "cell<7", "day=0030", "!day=3", "cell>9999"};
        GhostCoast x = new GhostCoast();
        Due.shown(x, 0, 207, 0, 5);
        x.tick(76);
        x.image();
        for (int i = 0; i < so.length; i++) {
            x.undo();
            Due.text(x, "bar show if " + so[i], 0, 80);
            due.is(so[i], x.may(0), 0);
            due.is(so[i] + ", shown", x.of(0, 9), 0);
            x.undo();
            Due.text(x, "bar show if " + not[i], 0, 80);
            due.is(not[i], x.may(0), 1);
            due.is(not[i] + ", shown", x.of(0, 9), 1);
        }
    }

    private static void longNumbers() {
        GhostCoast x = new GhostCoast();
        x.show(0, 395, 0);
        Due.text(x, "must show if cell=95", 0, 0);
        due.is("two digits", x.must(0), 1);
        Due.text(x, "bar show if cell=0095&cell<0096&!cell<95&cell>9", 0, 0);
        due.is("four digits", x.may(0), 0);
        Due.text(x, "may show if cell<1234", 0, 0);
        due.is("a great number", x.why(0), 20);
    }

    private static void ands() {
        String so = "day=0";
        String not = "day=1";
        String[] texts = {so + "&" + so, so + "&" + not, not + "&" + so, not + "|" + so, so + "|" + not,
            not + "|" + not, not + "&" + so + "|" + so, not + "&" + so + "|" + so + "&" + not, so + "|" + so + "&" + not,
            so + "&" + not + "|" + so + "&" + so, "!" + not + "&!" + so + "|" + not, not + "|" + not + "|" + not + "|" + so};
        int[] want = {1, 0, 0, 1, 1, 0, 1, 0, 1, 1, 0, 1};
        for (int i = 0; i < texts.length; i++) {
            GhostCoast x = new GhostCoast();
            x.show(0, 0, 0);
            Due.text(x, "must show if " + texts[i], 0, 0);
            due.is(texts[i], x.must(0), want[i]);
        }
    }

    private static void greatestTextFirst() {
        GhostCoast x = new GhostCoast();
        x.show(1, 0, 0);
        x.show(3, 100, 0);
        Due.text(x, "must net;bar show", 0, 80);
        due.is("first clause", x.why(1), 0);
        due.is("second clause", x.why(0), 1);
        due.is("must", x.must(1), 1);
        due.is("may of must", x.may(1), 1);
        due.is("may of bar", x.may(0), 0);
        Due.text(x, "may camp;bar show if story=1;may dummy", 0, 80);
        due.is("the greater text, about story 1", x.why(1), 11);
        due.is("the greater text, first that is about it", x.why(0), 12);
        due.is("may", x.may(0), 1);
        due.is("must of may", x.must(0), 0);
        Due.text(x, "bar quiet", 0, 80);
        due.is("a text that isn't about it", x.why(0), 12);
        x.drop(1);
        due.is("without the void one", x.why(0), 1);
    }

    private static void days() {
        GhostCoast x = new GhostCoast();
        x.show(0, 0, 0);
        Due.text(x, "bar show", 1, 2);
        due.is("ahead of its days", x.may(0), 1);
        x.tick(23);
        due.is("the hour ahead of its days", x.may(0), 1);
        x.tick(1);
        due.is("its first day", x.may(0), 0);
        x.tick(47);
        due.is("its last hour", x.may(0), 0);
        x.tick(1);
        due.is("behind its days", x.may(0), 1);
        due.is("why", x.why(0), Due.NONE);
    }

    private static void none() {
        GhostCoast x = new GhostCoast();
        due.is("must of no show", x.must(0), Due.BEYOND);
        due.is("may of no show", x.may(0), Due.BEYOND);
        due.is("why of no show", x.why(0), Due.BEYOND);
        x.show(0, 0, 0);
        due.is("must with no text", x.must(0), 0);
        due.is("may with no text", x.may(0), 1);
        due.is("why with no text", x.why(0), Due.NONE);
        due.is("must -1", x.must(-1), Due.BEYOND);
        due.is("may -1", x.may(-1), Due.BEYOND);
        due.is("why -1", x.why(-1), Due.BEYOND);
    }
}
