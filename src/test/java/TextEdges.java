/** THE TEXT: each sentence of the document that names a bound of it. */
public final class TextEdges {
    private static final int NONE = OnChin.NONE, NOT = OnChin.NOT, FULL = OnChin.FULL;
    /** Every LINE that there is, TOKENS with one blank between. */
    private static final String[] FORMS = {"thing 2 plain", "thing 2 turning 3", "thing 2 wet 3",
        "thing 2 jointed 3", "lump 2 30 4", "bare 2", "man 1 2 3 4 5", "floor 6", "pull 7", "bound 8",
        "wind 9", "shake 10"};

    private final Checks checks = new Checks();

    public static void main(String[] args) {
        TextEdges tests = new TextEdges();
        tests.bytesAtMost();
        tests.byteOfLong();
        tests.lineCount();
        tests.emptyText();
        tests.tooSoon();
        tests.tooMuch();
        tests.wordsAsWritten();
        tests.bounds();
        tests.boundsOfThings();
        tests.digits();
        tests.blanks();
        tests.everyByte();
        tests.firstFault();
        tests.fifthLump();
        tests.fifthLumpByEarlierTexts();
        tests.lumpsStay();
        tests.order();
        tests.earlierStays();
        tests.erased();
        tests.checks.end();
    }

    /** The FAULT, and that chin does as it says. */
    private void dueFault(String text, int place) {
        OnChin c = new OnChin();
        Checks.put(c, text);
        checks.due("fault of '" + text + "'", c.fault(), place);
        checks.due("bytes of '" + text + "'", c.count(11), text.length());
        if (place == NONE) {
            long lines = 1 + text.chars().filter(sign -> sign == ';').count();
            checks.due("chin of '" + text + "'", c.chin(), (int) lines);
            checks.due("it is empty then", c.count(11), 0);
        } else {
            checks.due("chin of '" + text + "'", c.chin(), NOT);
            checks.due("bytes behind that", c.count(11), text.length());
        }
    }

    private void bytesAtMost() {
        checks.sentence("THE TEXT is a row of bytes, 200 at most");
        OnChin c = new OnChin();
        Checks.put(c, " ".repeat(193) + "wind 20");
        checks.due("bytes", c.count(11), 200);
        checks.due("write a byte more", c.write('0', 1), FULL);
        checks.due("fault", c.fault(), NONE);
        checks.due("chin", c.chin(), 1);
        checks.due("WIND, by the last byte", c.count(8), 20);
        Checks.put(c, " ".repeat(193) + "wind 2x");
        checks.due("a FAULT at the last byte", c.fault(), 199);
        c.erase();
        Checks.put(c, " ".repeat(195) + "wind ");
        checks.due("the end of 200", c.fault(), 200);
        c.erase();
        Checks.put(c, " ".repeat(193) + "wind 3;");
        checks.due("the end of 200, behind ;", c.fault(), 200);
        c.erase();
        Checks.put(c, "wind 4" + " ".repeat(194));
        checks.due("chin", c.chin(), 1);
        Checks.put(c, "x".repeat(200));
        checks.due("a word of 200", c.fault(), 0);
        c.erase();
        Checks.put(c, "9".repeat(200));
        checks.due("a number of 200", c.fault(), 0);
        c.erase();
        Checks.put(c, ";".repeat(200));
        checks.due("200 times ;", c.fault(), 0);
    }

    private void byteOfLong() {
        checks.sentence("byte i being bytes >> 8 i & 255");
        long pulls = Checks.packed("pull 123", 0, 8);
        for (int n = 1; n <= 8; n++) {
            OnChin c = new OnChin();
            checks.due("write " + n, c.write(pulls, n), n);
            checks.due("fault of the first " + n, c.fault(), n < 4 ? 0 : n < 6 ? n : n < 8 ? NONE : 5);
        }
        for (long bytes : new long[] {Long.MIN_VALUE, Long.MAX_VALUE, -1L, 0L}) {
            for (int n = 1; n <= 8; n++) {
                OnChin c = new OnChin();
                Checks.put(c, "wind 1");
                checks.due("write " + bytes + " " + n, c.write(bytes, n), 6 + n);
                checks.due("no byte of it can stand", c.fault(), 6);
            }
        }
        for (int i = 0; i < 8; i++) {
            OnChin c = new OnChin();
            Checks.put(c, "wind 1");
            c.write(0x2020202020202020L ^ 0x80L << 8 * i, 8);
            checks.due("byte " + i + " is 160, no blank", c.fault(), 6 + i);
        }
    }

    private void lineCount() {
        checks.sentence("LINES with ; between, 1 to 8; behind the 8th no ; can stand");
        StringBuilder text = new StringBuilder("wind 1");
        for (int lines = 1; lines <= 8; lines++) {
            dueFault(text.toString(), NONE);
            dueFault(text + "  ", NONE);
            // the 8th alone is not followed by another
            dueFault(text + ";", lines < 8 ? text.length() + 1 : text.length());
            dueFault(text + " ; ", lines < 8 ? text.length() + 3 : text.length() + 1);
            dueFault(text + ";;", lines < 8 ? text.length() + 1 : text.length());
            text.append(";wind 1");
        }
        dueFault(text.toString(), 55);
        dueFault(text + ";wind 1", 55);
        dueFault("wind 1;wind 1;wind 1;wind 1;wind 1;wind 1;wind 1;wind 99;wind 1", 54);
    }

    private void emptyText() {
        checks.sentence("an empty TEXT ends too soon");
        dueFault("", 0);
        dueFault(" ", 1);
        dueFault(" ".repeat(200), 200);
        dueFault(";", 0);
        dueFault(" ; ", 1);
        dueFault("wind 1;", 7);
        dueFault("wind 1;  ", 9);
        dueFault("wind 1;;", 7);
        dueFault(";wind 1", 0);
    }

    private static String joined(String[] tokens, int n) {
        return String.join(" ", java.util.Arrays.copyOf(tokens, n));
    }

    private void tooSoon() {
        checks.sentence("or at the end, if it comes too soon");
        for (String form : FORMS) {
            String[] tokens = form.split(" ");
            for (String ahead : new String[] {"", "wind 1;", "  bare 0 ; "}) {
                for (int n = 1; n < tokens.length; n++) {
                    String cut = ahead + joined(tokens, n);
                    dueFault(cut, cut.length());
                    dueFault(cut + "   ", cut.length() + 3);
                    dueFault(cut + ";", cut.length());
                    dueFault(cut + " ;wind 1", cut.length() + 1);
                    dueFault(cut + " word", cut.length() + 1);
                    dueFault(cut + " 1000", cut.length() + 1);
                    dueFault(cut + "-", cut.length());
                }
            }
        }
        dueFault("thing 2 5", 8);
        dueFault("thing 2 plai", 8);
    }

    private void tooMuch() {
        checks.sentence("a TOKEN that cannot stand there: behind a LINE ; alone can");
        for (String form : FORMS) {
            dueFault(form, NONE);
            dueFault(form + ";" + form, NONE);
            dueFault(form + " 1", form.length() + 1);
            dueFault(form + " wind 1", form.length() + 1);
            dueFault(form + ".", form.length());
            dueFault(form + ",wind 1", form.length());
            dueFault(form + ":wind 1", form.length());
            dueFault("1 " + form, 0);
            dueFault("- " + form, 0);
        }
    }

    private void wordsAsWritten() {
        checks.sentence("each is one of: as written here; small letters a .. z");
        for (String form : FORMS) {
            String word = form.split(" ")[0];
            String rest = form.substring(word.length());
            dueFault(word.substring(1) + rest, 0);
            dueFault(word.substring(0, word.length() - 1) + rest, 0);
            dueFault(word + word.charAt(word.length() - 1) + rest, 0);
            dueFault(word + "s" + rest, 0);
            dueFault("a" + word + rest, 0);
            dueFault(word.toUpperCase() + rest, 0);
            for (int i = 0; i < word.length(); i++) {
                String other = word.substring(0, i) + (char) (word.charAt(i) ^ 1) + word.substring(i + 1);
                dueFault(other + rest, 0);
            }
        }
        for (String kind : new String[] {"turning", "wet", "jointed"}) {
            dueFault("thing 0 " + kind.substring(0, kind.length() - 1) + " 1", 8);
            dueFault("thing 0 " + kind + "s 1", 8);
            dueFault("thing 0 " + kind.toUpperCase() + " 1", 8);
        }
        dueFault("thing 0 plains", 8);
        dueFault("thing 0 lump", 8);
        dueFault("thing 0 Plain", 8);
        dueFault("turning 1", 0);
        dueFault("late 1", 0);
    }

    /** The bounds of the number that stands between these, told as count tells them. */
    private void dueBounds(String ahead, String behind, int what, int least, int most) {
        for (int number : new int[] {least, least + 1, most - 1, most}) {
            dueFault(ahead + number + behind, NONE);
            checks.due("count behind " + number, Checks.told(ahead + number + behind).count(what), number);
            String long3 = String.format("%03d", number);
            checks.due("count behind " + long3, Checks.told(ahead + long3 + behind).count(what), number);
        }
        if (least > 0) {
            dueFault(ahead + (least - 1) + behind, ahead.length());
            dueFault(ahead + "000" + behind, ahead.length());
        }
        for (int above : new int[] {most + 1, most + 10, 999, 1000, 9999}) {
            if (above > most) {
                dueFault(ahead + above + behind, ahead.length());
            }
        }
        dueFault(ahead + "000" + most + behind, ahead.length());
        dueFault(ahead + "-1" + behind, ahead.length());
        dueFault(ahead + "+1" + behind, ahead.length());
        dueFault(ahead + "4294967297" + behind, ahead.length());
        dueFault(ahead + "18446744073709551617" + behind, ahead.length());
    }

    private void bounds() {
        checks.sentence("A, B (0 .. 40), LATE (0 .. 6), REACH (1 .. 99), DEAD (0 .. 99)");
        dueBounds("man ", " 0 0 1 0", 0, 0, 40);
        dueBounds("man 0 ", " 0 1 0", 1, 0, 40);
        dueBounds("man 0 0 ", " 1 0", 2, 0, 6);
        dueBounds("man 0 0 0 ", " 0", 3, 1, 99);
        dueBounds("man 0 0 0 1 ", "", 4, 0, 99);
        checks.sentence("FLOOR: 0 .. 999. PULL 1 .. 99. BOUND 1 .. 999. WIND 0 .. 20. SHAKE 0 .. 99.");
        dueBounds("floor ", "", 5, 0, 999);
        dueBounds("pull ", "", 6, 1, 99);
        dueBounds("bound ", "", 7, 1, 999);
        dueBounds("wind ", "", 8, 0, 20);
        dueBounds("shake ", "", 9, 0, 99);
    }

    private void dueThing(String text, int thing, int what, int want) {
        checks.due("thing " + what + " of '" + text + "'", Checks.told(text).thing(thing, what), want);
    }

    private void boundsOfThings() {
        checks.sentence("THINGS are 0 .. 3");
        for (int thing = 0; thing < 4; thing++) {
            dueThing("thing " + thing + " wet 4", thing, 0, 2);
            dueThing("lump 00" + thing + " 5 6", thing, 2, 1);
            dueThing("lump " + thing + " 5 6;bare 0" + thing, thing, 2, 0);
        }
        for (String none : new String[] {"4", "10", "999", "0000", "-1"}) {
            dueFault("thing " + none + " plain", 6);
            dueFault("lump " + none + " 1 1", 5);
            dueFault("bare " + none, 5);
        }
        checks.sentence("PLAIN (0), TURNING (1), WET (2) or JOINTED (3) by so much (S 1 .. 9; of PLAIN ones 0)");
        String[] kinds = {"plain", "turning", "wet", "jointed"};
        for (int kind = 1; kind < 4; kind++) {
            String text = "thing 1 " + kinds[kind] + " ";
            for (int s = 1; s <= 9; s++) {
                dueThing(text + s, 1, 0, kind);
                dueThing(text + s, 1, 1, s);
                dueThing(text + s + ";thing 1 plain", 1, 0, 0);
                dueThing(text + s + ";thing 1 plain", 1, 1, 0);
            }
            OnChin c = Checks.told(text + "9");
            Checks.tell(c, "thing 1 plain");
            checks.due("S of a PLAIN one, told later", c.thing(1, 1), 0);
            for (String s : new String[] {"0", "10", "00", "000", "0001", "99", "999"}) {
                dueFault(text + s, text.length());
            }
        }
        checks.sentence("HEIGHT 1 .. 300, WEIGHT 1 .. 99");
        for (int height : new int[] {1, 2, 299, 300}) {
            checks.due("HEIGHT", Checks.told("lump 3 " + height + " 7").lump(3, 0, 0), height);
        }
        for (int weight : new int[] {1, 2, 98, 99}) {
            checks.due("WEIGHT", Checks.told("lump 3 7 " + weight).lump(3, 0, 1), weight);
        }
        for (String height : new String[] {"0", "301", "999", "0300"}) {
            dueFault("lump 3 " + height + " 7", 7);
        }
        for (String weight : new String[] {"0", "100", "999", "0099"}) {
            dueFault("lump 3 7 " + weight, 9);
        }
    }

    private void digits() {
        checks.sentence("numbers of 1 to 3 digits");
        dueFault("floor 0", NONE);
        dueFault("floor 00", NONE);
        dueFault("floor 000", NONE);
        dueFault("floor 0000", 6);
        dueFault("floor 9", NONE);
        dueFault("floor 99", NONE);
        dueFault("floor 999", NONE);
        dueFault("floor 1000", 6);
        dueFault("man 000 000 000 001 000", NONE);
        dueFault("man 000 000 000 0001 000", 16);
    }

    private void blanks() {
        checks.sentence("blanks (32) may stand ahead of, between and behind TOKENS");
        dueFault("   thing    3     wet      9       ", NONE);
        dueFault(" wind  1 ;   pull 2  ", NONE);
        dueFault("wi nd 1", 0);
        dueFault("thing 0 pla in", 8);
        // a blank within makes two numbers
        dueFault("floor 1 2", 8);
        checks.sentence("none is needed but between two words, two numbers");
        dueFault("thing3wet9", NONE);
        dueFault("thing3plain;lump3 1 1;bare3;man1 2 3 4 5;floor6;pull7;bound8;wind9", NONE);
        dueFault("man12345", 3);
        dueFault("man1 2 3 45", 11);
        dueFault("lump3 11", 8);
        dueFault("lump31 1", 4);
        dueFault("thing3plainthing", 6);
        dueFault("windshake", 0);
        checks.due("man without blanks", Checks.told("man1 2 3 4 5").count(0), 1);
        checks.due("S without blanks", Checks.told("thing3wet9").thing(3, 1), 9);
    }

    private void everyByte() {
        checks.sentence("a row of small letters, a row of digits, any other byte");
        for (int value = 0; value < 256; value++) {
            char sign = (char) value;
            boolean isDigit = value >= 48 && value <= 57;
            boolean isLetter = value >= 97 && value <= 122;
            dueFault(sign + "wind 1", value == 32 ? NONE : 0);
            dueFault("wi" + sign + "d 1", sign == 'n' ? NONE : 0);
            dueFault("wind" + sign, value == 32 ? 5 : isLetter ? 0 : isDigit ? NONE : 4);
            dueFault("wind" + sign + "5", value == 32 || sign == '0' || sign == '1' ? NONE : isLetter ? 0 : 4);
            dueFault("floor 9" + sign, value == 32 || isDigit ? NONE : sign == ';' ? 8 : 7);
            dueFault("floor 999" + sign, value == 32 ? NONE : isDigit ? 6 : sign == ';' ? 10 : 9);
            dueFault("thing 0" + sign + "plain", value == 32 || sign == '0' || sign == '1' || sign == '2' || sign == '3'
                ? NONE : isDigit ? 6 : 7);
            dueFault("pull 5" + sign + "pull 5", sign == ';' ? NONE : value == 32 || isDigit ? 7 : 6);
        }
    }

    private void firstFault() {
        checks.sentence("A FAULT is at the first TOKEN that cannot stand there");
        dueFault("pull 0;floor 1000", 5);
        dueFault("pull 1;floor 1000;x", 13);
        dueFault("lump 4 0 0", 5);
        dueFault("lump 3 0 0", 7);
        dueFault("man 41 41 7 0 100", 4);
        dueFault("man 40 41 7 0 100", 7);
        dueFault("man 40 40 7 0 100", 10);
        dueFault("man 40 40 6 0 100", 12);
        dueFault("man 40 40 6 99 100", 15);
        dueFault("thing 4 x", 6);
        dueFault("thing 3 x 0", 8);
        dueFault("thing 3 wet 0 0", 12);
        dueFault("thing 3 wet 9 0", 14);
        dueFault("wind 1;;", 7);
    }

    private static String lumps(int thing, int many) {
        return ("lump " + thing + " 7 8;").repeat(many);
    }

    private void fifthLump() {
        checks.sentence("a fifth LUMP cannot stand there, at its T");
        for (int thing = 0; thing < 4; thing++) {
            dueFault(lumps(thing, 3) + "lump " + thing + " 1 1", NONE);
            dueFault(lumps(thing, 4) + "lump " + thing + " 1 1", 49);
            dueFault(lumps(thing, 4) + "lump  00" + thing + " 1 1", 50);
            dueFault(lumps(thing, 4) + "lump " + thing, 49);
            dueFault(lumps(thing, 4) + "lump " + thing + " 0 0", 49);
            dueFault(lumps(thing, 4) + "lump " + thing + " 1 1;x", 49);
            dueFault(lumps(thing, 4) + "lump " + (thing + 1) % 4 + " 1 1", NONE);
            dueFault(lumps(thing, 4) + "thing " + thing + " wet 1;lump " + thing + " 1 1", 63);
        }
        dueFault("x;" + lumps(0, 5) + "wind 1", 0);
        dueFault(lumps(0, 4) + "lump 4 1 1", 49);
        checks.sentence("by LUMPS that there are behind the LINES ahead");
        dueFault(lumps(0, 4) + "bare 0;lump 0 1 1", NONE);
        dueFault(lumps(0, 4) + "bare 1;lump 0 1 1", 56);
        dueFault(lumps(0, 2) + "bare 0;" + lumps(0, 4) + "lump 0 1 1", 78);
        dueFault(lumps(0, 2) + "bare 0;" + lumps(0, 4) + "wind 1", NONE);
        dueFault(lumps(0, 4) + "lump 0 1 1;bare 0", 49);
    }

    private void fifthLumpByEarlierTexts() {
        checks.sentence("by LUMPS that there are behind the LINES ahead, and behind earlier texts");
        for (int there = 0; there <= 4; there++) {
            for (int more = 1; more <= 5; more++) {
                OnChin c = Checks.told(lumps(2, there) + "wind 1");
                Checks.put(c, lumps(2, more) + "wind 2");
                int wanted = there + more <= 4 ? NONE : 11 * (4 - there) + 5;
                checks.due(there + " and " + more, c.fault(), wanted);
                checks.due("asked again", c.fault(), wanted);
                checks.due("chin", c.chin(), wanted == NONE ? more + 1 : NOT);
                checks.due("LUMPS", c.thing(2, 2), wanted == NONE ? there + more : there);
                checks.due("WIND", c.count(8), wanted == NONE ? 2 : 1);
            }
        }
        OnChin c = Checks.told(lumps(2, 4) + "wind 1");
        checks.due("bare makes room", Checks.tell(c, "bare 2;" + lumps(2, 4) + "wind 3"), 6);
        checks.due("LUMPS", c.thing(2, 2), 4);
    }

    private void lumpsStay() {
        checks.sentence("thing: its LUMPS stay; bare: the THING has no LUMPS");
        OnChin c = Checks.told("lump 1 10 2;lump 1 30 4;lump 0 5 5");
        for (String kind : new String[] {"wet 3", "jointed 9", "turning 1", "plain"}) {
            checks.due("chin", Checks.tell(c, "thing 1 " + kind), 1);
            checks.due("of another THING", c.thing(0, 1), 0);
            checks.due("LUMPS", c.thing(1, 2), 2);
            checks.due("LONG", c.thing(1, 3), 27);
            checks.due("HEIGHT", c.lump(1, 1, 0), 30);
        }
        checks.due("chin", Checks.tell(c, "thing 1 wet 3;bare 1"), 2);
        int[] bare = {2, 3, 0, NONE, 0};
        for (int what = 0; what < 5; what++) {
            checks.due("thing 1 " + what, c.thing(1, what), bare[what]);
        }
        checks.due("no such LUMP", c.lump(1, 0, 0), OnChin.UNKNOWN);
        checks.due("another THING", c.thing(0, 2), 1);
        checks.due("bare of a bare one", Checks.tell(c, "bare 1;bare 1"), 2);
        Checks.tell(c, "lump 1 8 9");
        checks.due("a LUMP behind bare", c.lump(1, 0, 0), 8);
        checks.due("no older one", c.lump(1, 1, 0), OnChin.UNKNOWN);
    }

    private void order() {
        checks.sentence("LINES are done in their order");
        dueThing("thing 1 wet 4;thing 1 jointed 5", 1, 0, 3);
        dueThing("thing 1 wet 4;thing 1 jointed 5", 1, 1, 5);
        dueThing("lump 1 5 5;bare 1", 1, 2, 0);
        dueThing("bare 1;lump 1 5 5", 1, 2, 1);
        OnChin c = Checks.told("lump 1 5 6;lump 1 300 7;lump 1 8 99;lump 1 1 1;pull 3;pull 2;pull 9;wind 4");
        int[] heights = {5, 300, 8, 1};
        int[] weights = {6, 7, 99, 1};
        for (int i = 0; i < 4; i++) {
            checks.due("HEIGHT", c.lump(1, i, 0), heights[i]);
            checks.due("WEIGHT", c.lump(1, i, 1), weights[i]);
        }
        checks.due("the last PULL", c.count(6), 9);
    }

    private void earlierStays() {
        checks.sentence("what earlier texts told stays");
        OnChin c = Checks.told("man 1 2 3 4 5;floor 6;pull 7;bound 8;wind 9;shake 10;thing 1 wet 4;lump 1 5 5");
        String[] names = {"floor", "pull", "bound", "wind", "shake"};
        int[] told = {1, 2, 3, 4, 5, 6, 7, 8, 9, 10};
        for (int i = 0; i < 5; i++) {
            checks.due("chin", Checks.tell(c, names[i] + " " + (i + 11)), 1);
            told[5 + i] = i + 11;
            for (int what = 0; what < 10; what++) {
                checks.due("count " + what, c.count(what), told[what]);
            }
            checks.due("S", c.thing(1, 1), 4);
            checks.due("LUMPS", c.thing(1, 2), 1);
        }
        Checks.tell(c, "man 6 7 5 8 9");
        int[] man = {6, 7, 5, 8, 9, 11, 12, 13, 14, 15};
        for (int what = 0; what < 10; what++) {
            checks.due("count " + what, c.count(what), man[what]);
        }
    }

    private void erased() {
        checks.sentence("THE TEXT is empty: how many bytes it had");
        OnChin c = new OnChin();
        checks.due("erase", c.erase(), 0);
        for (int n : new int[] {1, 8, 199, 200}) {
            Checks.put(c, " ".repeat(n));
            checks.due("erase", c.erase(), n);
            checks.due("bytes", c.count(11), 0);
            checks.due("fault", c.fault(), 0);
            checks.due("erase", c.erase(), 0);
        }
        Checks.put(c, "wind 19");
        c.erase();
        Checks.put(c, "wind 1");
        checks.due("chin", c.chin(), 1);
        checks.due("no older byte", c.count(8), 1);
        checks.due("empty behind chin", c.erase(), 0);
    }
}
