/** The bounds of a TEXT, sentence by sentence of the document's Terms: the last that is allowed, the first that is not. */
public final class TextEdgesTest extends Checks {
    private static final int[] CHANGES = {0, 1, 2, 4, 5, 8, 9, 10, 16, 17, 18, 20, 21};
    private static final String SIGNS = ";()+-*/<=";
    private static final String[] LINES = {"turnip 5 0;", "swede 5 0 0;", "mangold 5 0;", "beet 5 0;", "weather 1;", "lasts 1;", "tune 1;",
        "method 1;", "note 1;", "grows 1;"};

    public static void main(String[] args) {
        length();
        words();
        numbers();
        blanks();
        strangeBytes();
        lines();
        roots();
        rowsOfNumbers();
        changes();
        whatIsNotTold();
        operands();
        operators();
        depth();
        nots();
        firstAlongTheText();
        leastOfOneToken();
        wordsWhereAPartMustStand();
        hooksTaken();
        toldTwice();
        allAnew();
        readAnewBehindAFault();
        end("TextEdgesTest");
    }

    private static void length() {
        quote("A TEXT of at most 700 bytes tells it.");
        String longest = "beet 9 0;note " + "0+".repeat(342) + "7;";
        is("bytes", longest.length(), 700);
        RootTower t = new RootTower();
        is("feed", Texts.feed(t, longest), 700);
        is("700 bytes", t.tower(700), 0);
        is("its rule", t.root(0, 4), 7);
        Texts.feed(t, longest);
        is("699 of them", t.tower(699), 1);
        is("where they end", t.fault(), 699);
        faulty("beet 9 0;note " + "0+".repeat(342) + "7+", 1, 700);
        fine("\n".repeat(689) + "beet 5 0 0;");
        fault(1, "\n".repeat(689) + "beet 5 0 0^");
        fault(1, "\n".repeat(699) + "^;");
        quote("the text's length where it ends too soon");
        for (String line : LINES) {
            for (int n = 1; n < line.length(); n++) {
                String part = line.substring(0, n);
                boolean word = line.charAt(n) == ' ' || part.indexOf(' ') >= 0;
                faulty(part, 1, word ? n : 0);
                faulty(part + "\n ", 1, word ? n + 2 : 0);
            }
        }
        fault(1, "note (1^");
        fault(1, "note 1 <^");
        fault(1, "note 1 or ^");
        fault(1, "note ((((((^");
        fault(1, "note not not not not not not^");
    }

    private static void words() {
        quote("words (a .. z, the longest row)");
        fault(1, "^turnips 5 0;");
        fault(1, "^turni 5 0;");
        fault(1, "^turnipturnip 5 0;");
        fault(1, "^tur nip 5 0;");
        fault(1, "^tu\nne 5;");
        fault(1, "turnip^T 5 0;");
        fault(1, "^Turnip 5 0;");
        fault(1, "^TURNIP 5 0;");
        fault(3, "note ^sizes;");
        fault(3, "note ^siz;");
        fault(3, "note ^sizeday;");
        fault(1, "note size ^day;");
        fault(1, "note 1 ^andsize;");
        fault(3, "note ^notsize;");
        fine("note not(size)and(day)or(hung);");
        fine("turnip5 0;tune1;note1or2;");
        is("a .. z", Texts.tower("note size<hollow+kind*weather;beet 9 0;").root(0, 4), 1);
        letterByLetter();
        for (int c = 0; c < 256; c++) {
            boolean letter = c >= 'a' && c <= 'z';
            boolean digit = c >= '0' && c <= '9';
            boolean blank = c == 32 || c == 10;
            int place = letter ? 0 : 5;
            faulty("lasts" + (char) c + "1;", digit || blank ? 0 : 1, digit || blank ? -1 : place);
        }
    }

    /** Each word with one letter that is another: a word still, but no longer that one. */
    private static void letterByLetter() {
        for (String line : LINES) {
            int end = line.indexOf(' ');
            for (int i = 0; i < end; i++) {
                fault(1, "^" + line.substring(0, i) + "q" + line.substring(i + 1));
            }
        }
        for (String value : new String[] {"size", "hollow", "kind", "soft", "weather", "day", "hung", "not"}) {
            for (int i = 0; i < value.length(); i++) {
                fault(3, "note ^" + value.substring(0, i) + "q" + value.substring(i + 1) + " 1;");
            }
        }
        for (String operator : new String[] {"or", "and"}) {
            for (int i = 0; i < operator.length(); i++) {
                fault(1, "note 1 ^" + operator.substring(0, i) + "q" + operator.substring(i + 1) + " 1;");
            }
        }
    }

    private static void numbers() {
        quote("NUMBERS (1 to 4 digits)");
        fine("turnip 0005 0000 0005;");
        fine("turnip 5 0 5;weather 0009;lasts 0099;tune 0015;method 0021;note 0001;grows 9999;");
        RootTower t = Texts.tower("turnip 0060 0020 0005;");
        row("leading zeros", what -> t.root(0, what), 0, 60, 20, 0, 0, 5, 1, 0);
        quote("a NUMBER of 5 digits or more");
        for (String five : new String[] {"00001", "10000", "99999", "000001", "0000000000000001", "2147483648", "4294967297", "18446744073709551617"}) {
            fault(2, "turnip ^" + five + " 0;");
            fault(2, "turnip 9 ^" + five + ";");
            fault(2, "turnip 9 0 ^" + five + ";");
            fault(2, "weather ^" + five + ";");
            fault(2, "weather 1 ^" + five + ";");
            fault(2, "lasts ^" + five + ";");
            fault(2, "tune ^" + five + ";");
            fault(2, "method ^" + five + ";");
            fault(2, "note ^" + five + ";");
            fault(2, "grows 1 + ^" + five + ";");
        }
        fault(1, "note 9 ^9999;");
        fault(1, "lasts 9 ^99999;");
        fault(1, "turnip 9 0 5 ^99999;");
        fault(1, "^99999;");
        fault(1, "note 1 ^99999;");
        is("9999", noteBy("9999 = 9998 + 1", "beet 9 0;"), 1);
    }

    private static void blanks() {
        quote("blanks (32, 10) between them count for nothing");
        fine("");
        fine(" ");
        fine("\n");
        fine(" \n \n ");
        fine("\n turnip\n5\n\n0  \n 5 ;\n \n");
        fine("note(1)+(2)*3<4and not(size)=1;");
        fine("note ( 1 ) + ( 2 ) * 3 < 4 and not ( size ) = 1 ;");
        fault(1, "^\t");
        fault(1, "^\r\n");
        fault(1, "turnip^\t5 0;");
        fault(1, "turnip 5 0;^\r\nbeet 5 0;");
        fault(1, "turnip 5 0;\n^\u000b");
        fault(1, "turnip 5 0^\u00a0;");
    }

    private static void strangeBytes() {
        quote("1 a TOKEN that can't stand there, or is none");
        for (int c = 0; c < 256; c++) {
            boolean blank = c == 32 || c == 10;
            faulty("" + (char) c, blank ? 0 : 1, blank ? -1 : 0);
            boolean joins = "+-*/<=".indexOf(c) >= 0;
            int place = blank || c == ';' ? 9 : 7;
            faulty("note 1 " + (char) c + " 2;", joins ? 0 : 1, joins ? -1 : place);
            faulty("lasts 9 " + (char) c + ";", blank ? 0 : 1, blank ? -1 : c == ';' ? 9 : 8);
            boolean digit = c >= '0' && c <= '9';
            boolean letter = c >= 'a' && c <= 'z';
            faulty("note " + (char) c + ";", digit ? 0 : letter ? 3 : 1, digit ? -1 : blank || c == '(' ? 6 : 5);
        }
    }

    private static void lines() {
        quote("TOWER: LINE*.");
        is("no LINE", Texts.tower("").count(0), 0);
        fine(String.join("", LINES));
        for (String line : LINES) {
            fine(line);
            fault(1, line + "^;");
            fault(1, line + "^(");
            fault(1, line + "^0");
            fault(1, line + "^size");
            String bare = line.substring(0, line.length() - 1);
            fault(1, bare + " ^);");
            fault(1, bare + " ^turnip;");
            fault(1, bare + " ^" + line);
            fault(1, bare + "^");
        }
        quote("'weather' NUMBER NUMBER*");
        for (String word : new String[] {"turnip", "swede 5", "mangold", "beet 5", "weather", "lasts", "tune", "method"}) {
            fault(1, word + "^;");
            fault(1, word + " ^size;");
            fault(1, word + " ^-1;");
            fault(1, word + " ^(1);");
            fault(1, word + " ^" + word + ";");
        }
        fault(1, "lasts 1 ^2;");
        fault(1, "turnip 5 0 1 ^1;");
        fault(1, "turnip 5 0 ^-;");
        quote("(with a HOOK it hangs there)");
        RootTower t = Texts.tower("turnip 5 0;swede 5 0 0;beet 5 0 5;");
        row("HOOK", root -> t.root(root, 5), -1, 0, 5);
        row("KIND", root -> t.root(root, 0), 0, 1, 3);
        quote("(0 turnip, 1 swede, 2 mangold, 3 beet)");
        RootTower kinds = Texts.tower("turnip 5 0;swede 5 0;mangold 5 0;beet 5 0;");
        row("KIND", root -> kinds.root(root, 0), 0, 1, 2, 3);
    }

    /** Fine from low to high, FAULT 2 on both sides of that. */
    private static void bounds(String before, int low, int high, String behind) {
        for (int n = 0; n <= high + 2; n++) {
            if (n >= low && n <= high) {
                fine(before + n + behind);
            } else {
                fault(2, before + "^" + n + behind);
            }
        }
        fault(2, before + "^9999" + behind);
        fault(2, before + "^10000" + behind);
    }

    private static void roots() {
        quote("SIZE (1 to 60)");
        bounds("turnip ", 1, 60, " 0;");
        bounds("beet ", 1, 60, " 0 3;");
        quote("HOLLOW (0 to 20, less than SIZE)");
        bounds("swede 60 ", 0, 20, ";");
        bounds("swede 22 ", 0, 20, ";");
        bounds("swede 21 ", 0, 20, ";");
        bounds("swede 20 ", 0, 19, ";");
        bounds("swede 19 ", 0, 18, " 2;");
        bounds("swede 2 ", 0, 1, ";");
        bounds("swede 1 ", 0, 0, ";");
        quote("HOOKS 0 to 5.");
        bounds("mangold 9 0 ", 0, 5, ";");
        quote("ROOTS 0, 1 .. (at most 10)");
        String ten = "turnip 5 0;".repeat(9) + "beet 7 0 5;";
        fine(ten);
        RootTower t = Texts.tower(ten);
        is("ten", t.count(0), 10);
        is("the last one", t.root(9, 1), 7);
        none("an eleventh", () -> t.root(10, 1));
        quote("the first TOKEN of the 11th ROOT");
        for (String word : new String[] {"turnip", "swede", "mangold", "beet"}) {
            fault(2, ten + "^" + word + " 5 0;");
            fault(2, ten + "^" + word);
            fault(2, ten + "lasts 9;\n^" + word + " 61;");
        }
        fault(1, ten + "^beetle 5 0;");
        fine(ten + "lasts 9;");
    }

    private static void rowOf(String word, int most, String numbers) {
        String[] all = numbers.split(" ");
        is("numbers told", all.length, most + 1);
        fault(1, word + "^;");
        StringBuilder text = new StringBuilder(word);
        for (int i = 0; i < most; i++) {
            text.append(' ').append(all[i]);
            fine(text + ";");
        }
        for (String more : new String[] {all[most], "0", "99", "12345", "0 0"}) {
            fault(2, text + " ^" + more + ";");
        }
        fault(2, text + " ^0");
        fault(1, text + " ^size;");
        fault(1, text + " ^-;");
    }

    private static void rowsOfNumbers() {
        quote("WEATHER (1 to 10 numbers, 0 to 9 each)");
        bounds("weather ", 0, 9, ";");
        bounds("weather 1 2 3 4 5 6 7 8 9 ", 0, 9, ";");
        quote("the 11th number of WEATHER");
        rowOf("weather", 10, "0 1 2 3 4 5 6 7 8 9 0");
        quote("LASTS (1 to 99; 20 without)");
        bounds("lasts ", 1, 99, ";");
        is("1", Texts.tower("lasts 1;").count(4), 1);
        is("99", Texts.tower("lasts 99;").count(4), 99);
        quote("A TUNE (0 to 8 NOTES, 0 to 15 each)");
        bounds("tune ", 0, 15, ";");
        bounds("tune 1 2 3 4 5 6 7 ", 0, 15, ";");
        quote("the 9th NOTE");
        rowOf("tune", 8, "0 1 2 3 4 5 14 15 0");
        RootTower t = Texts.tower("tune 15 0 1 2 3 4 5 14;");
        is("eight", t.count(5), 8);
        row("tune", t::tune, 15, 0, 1, 2, 3, 4, 5, 14);
        quote("A METHOD (1 to 12 CHANGES; none without)");
        quote("the 13th CHANGE");
        rowOf("method", 12, "0 1 2 4 5 8 9 10 16 17 18 20 21");
        RootTower m = Texts.tower("method 21 1 2 4 5 8 9 10 16 17 18 20;");
        is("twelve", m.count(6), 12);
        row("change", m::change, 21, 1, 2, 4, 5, 8, 9, 10, 16, 17, 18, 20);
    }

    private static boolean isChange(int number) {
        for (int change : CHANGES) {
            if (change == number) {
                return true;
            }
        }
        return false;
    }

    private static void changes() {
        quote("a CHANGE is a number 0 to 31 of bits that are not next to each other");
        quote("(a CHANGE with bits next to each other, HOLLOW not less than SIZE)");
        for (int number = 0; number <= 70; number++) {
            if (isChange(number)) {
                fine("method " + number + ";");
                fine("method 1 " + number + " 2;");
            } else {
                fault(2, "method ^" + number + ";");
                fault(2, "method 1 ^" + number + " 2;");
            }
        }
        fault(2, "method ^9999;");
    }

    private static void whatIsNotTold() {
        RootTower t = Texts.tower("turnip 5 0;");
        quote("4 without.");
        is("WEATHER", t.count(3), 4);
        quote("20 without");
        is("LASTS", t.count(4), 20);
        quote("0 to 8 NOTES");
        is("NOTES", t.count(5), 0);
        quote("none without");
        is("CHANGES", t.count(6), 0);
        RootTower anew = Texts.tower("weather 9;lasts 3;tune 1 2;method 1 2;note 3;grows 9;beet 5 0 4;");
        is("anew", Texts.read(anew, "beet 9 0;"), 0);
        row("all as without", anew::count, 1, 0, 0, 4, 20, 0, 0, 0, 1);
        is("NOTE as without", anew.root(0, 4), 11);
        anew.days(1);
        is("GROWS as without", anew.root(0, 1), 10);
    }

    /** What may stand where an operand must: also a 'not' behind these, not behind those. */
    private static void operands() {
        quote("PART: NUMBER | VALUE | '(' EXPR ')'.");
        String[] also = {"", "(", "not ", "1 and ", "1 or ", "1 < 2 and ", "not 1 = 1 or ", "2 * (", "(1) and "};
        String[] never = {"1 + ", "1 - ", "1 * ", "1 / ", "1 < ", "1 = ", "not 1 < ", "(1) + "};
        for (int i = 0; i < also.length + never.length; i++) {
            String before = "note " + (i < also.length ? also[i] : never[i - also.length]);
            String behind = before.indexOf('(') >= 0 && before.indexOf(')') < 0 ? ");" : ";";
            for (String part : new String[] {"0", "9999", "size", "hollow", "kind", "soft", "weather", "day", "hung", "(1)", "(size < 3)"}) {
                fine(before + part + behind);
            }
            for (char sign : SIGNS.toCharArray()) {
                if (sign != '(') {
                    fault(1, before + "^" + sign + behind);
                }
            }
            for (String word : new String[] {"sun", "or", "and", "turnip", "note", "grows", "lasts", "tune", "method"}) {
                fault(3, before + "^" + word + behind);
            }
            fault(2, before + "^10000" + behind);
            fault(1, before + "^A" + behind);
            fault(1, before + "^");
            if (i < also.length) {
                fine(before + "not 1" + behind);
            } else {
                fault(3, before + "^not 1" + behind);
            }
        }
    }

    private static void operators() {
        quote("NOT: 'not' NOT | SUM [('<' | '=') SUM].");
        String[] plain = {"1", "size", "(1)", "(1 < 2)", "1 + 2", "2 * 3", "not 1", "1 < 2 and 1", "1 = 2 or 3", "not (1 < 2)"};
        String[] tested = {"1 < 2", "1 = 2", "not 1 < 2", "1 and 1 < 2", "1 or 1 = 2", "1 < (2)", "(1) = 2 + 3", "1 < 2 * (3)"};
        for (int i = 0; i < plain.length + tested.length; i++) {
            boolean test = i >= plain.length;
            String before = "note " + (test ? tested[i - plain.length] : plain[i]) + " ";
            for (String operator : new String[] {"+", "-", "*", "/", "or", "and"}) {
                fine(before + operator + " 1;");
            }
            for (String operator : new String[] {"<", "="}) {
                if (test) {
                    fault(1, before + "^" + operator + " 1;");
                } else {
                    fine(before + operator + " 1;");
                }
            }
            for (String token : new String[] {"(1)", ")", "not", "size", "sun", "1", "12345", "turnip", "oror", "A", "%"}) {
                fault(1, before + "^" + token + ";");
            }
        }
        fault(1, "note (1^;");
        fault(1, "note (1 < 2 ^< 3);");
        fine("note (1 < 2) < (3 < 4);");
        fine("note 1 < (2 < (3 < 4));");
        fault(1, "note 1 < (2 < 3) ^< 4;");
        fault(1, "note (1 < 2) < 3 ^= 4;");
        fault(1, "note (1)^);");
        fine("note (1 < 2 and 3 < 4 or 5 = 6);");
        fine("note ((1 < 2 and 3 < 4) = (5 < 6 or 7 < 8) and 9 = 9);");
        fault(1, "note ((1 < 2 and 3 < 4) = 5 ^= 6);");
        fault(1, "note (1 < 2 and 3 < 4 ^< 5);");
        fault(1, "note 1 < (2 and 3 < 4) ^< 5;");
    }

    private static String nested(int parentheses, String inner) {
        return "(".repeat(parentheses) + inner + ")".repeat(parentheses);
    }

    private static void depth() {
        quote("of an EXPR within 6 others (a NUMBER, any word, a parenthesis)");
        for (String rule : new String[] {"note ", "grows "}) {
            fine(rule + nested(5, "1") + ";");
            fine(rule + nested(5, "not 1 < 2 or size") + ";");
            fine(rule + nested(5, "1") + "+" + nested(5, "1") + ";");
            for (String first : new String[] {"1", "9999", "12345", "size", "sun", "not 1", "or", "and", "turnip", "(1)", "((1))", "("}) {
                fault(2, rule + nested(6, "^" + first) + ";");
                fault(2, rule + "((((1+(1+(^" + first + ")))))) ;");
                fault(2, rule + nested(5, "1") + "+" + nested(6, "^" + first) + ";");
            }
            for (char sign : ")+-*/<=;".toCharArray()) {
                fault(1, rule + "((((((^" + sign);
            }
            fault(1, rule + "((((((^A");
            fault(1, rule + "((((((^");
        }
        fine("note (1+(2+(3+(4+(5)))));grows (1+(2+(3+(4+(5)))));");
        fault(2, "note (1+(2+(3+(4+(5+(^6))))));");
        fault(2, "note (1)+(2+(3)+(4+(5+(6+(7+(^8))))));");
        is("five deep", noteBy("(((((1)+2)*3)-4))", "beet 9 0;"), 5);
    }

    private static void nots() {
        quote("the seventh 'not' side by side");
        String six = "not not not not not not ";
        fine("note " + six + "1;");
        fault(2, "note " + six + "^not 1;");
        fault(2, "note " + six + "^not not 1;");
        fault(2, "note " + six + "^not");
        fault(2, "grows " + six.replace(" ", "\n") + "^not 1;");
        fault(2, "note 1 and " + six + "^not 1;");
        fault(2, "note (" + six + "^not 1);");
        fine("note " + six + "(" + six + "1);");
        fine("note " + six + "1 and " + six + "2 or " + six + "3 < 4;");
        fine("note " + six + "1;grows " + six + "1;");
        fine("note not not not (not not not (not not not not not 1));");
        fault(3, "note " + six + "^sun;");
        fault(1, "note " + six + "^;");
        is("six", noteBy(six + "7", "beet 9 0;"), 1);
        is("five", noteBy("not not not not not 7", "beet 9 0;"), 0);
    }

    private static void firstAlongTheText() {
        quote("FAULTS, the first along the text, at a TOKEN's first byte");
        fault(2, "turnip ^61 61 9;sun;");
        fault(2, "lasts 1;tune ^16;lasts 1;");
        fault(5, "lasts 1;^lasts 100;tune 16;");
        fault(1, "^sun;turnip 61 0;");
        fault(3, "note ^sun + 12345 +;");
        fault(4, "beet 5 0 1;beet 5 0 ^1 1;");
        fault(1, "turnip 5 0;   ^sun moon;");
        fault(2, "weather 1 2 3\n\n\n   ^0010 10;");
    }

    private static void leastOfOneToken() {
        quote("of one TOKEN the least");
        // a HOOK with five digits on which one hangs is 2 and 4
        fault(2, "beet 5 0 3;beet 5 0 ^00003;");
        // the first word of an EXPR within 6 others is 2, of no VALUE 3 too
        fault(2, "note ((((((^sun))))));");
        fault(2, "note ((((((^or))))));");
        // a parenthesis that closes nothing is 1 and 2
        fault(1, "note ((((((^)))))));");
        // a NUMBER where none can stand is 1 and 2
        fault(1, "note 1 ^12345;");
        fault(1, "turnip 5 0 1 ^12345;");
        fault(1, "lasts 5 ^12345;");
        // a seventh 'not' is 2, though no VALUE
        fault(2, "note not not not not not not ^not;");
        // the 13th CHANGE with bits next to each other, the 11th number above 9 are 2 twice
        fault(2, "method 0 0 0 0 0 0 0 0 0 0 0 0 ^3;");
        fault(2, "weather 0 0 0 0 0 0 0 0 0 0 ^10;");
    }

    private static void wordsWhereAPartMustStand() {
        quote("3 any word where a PART must stand that is no VALUE");
        for (String word : new String[] {"sun", "a", "z", "or", "and", "note", "grows", "turnip", "tune", "lasts", "sizes", "softness", "days", "hang", "notes"}) {
            fault(3, "note ^" + word + ";");
            fault(3, "grows 1 * ^" + word);
            fault(3, "grows (1 < ^" + word + ");");
        }
        fault(3, "note 1 + ^not 1;");
        fault(3, "note not 1 = ^not 1;");
        fault(3, "note 1 and ^and 1;");
        fault(3, "note not ^or 1;");
    }

    private static void hooksTaken() {
        quote("4 a HOOK on which a ROOT hangs");
        String five = "beet 5 0 5;beet 5 0 4;beet 5 0 3;beet 5 0 2;beet 5 0 1;";
        fine(five + "beet 5 0 0;");
        for (int hook = 0; hook < 6; hook++) {
            fault(4, "swede 9 0 " + hook + ";turnip 9 0;turnip 9 0 ^" + hook + ";");
            fault(4, five + "beet 5 0 0;swede 9 0 ^" + hook + ";");
            fault(4, "swede 9 0 " + hook + ";turnip 9 0 ^" + hook);
        }
        fault(2, five + "beet 5 0 0;swede 9 0 ^6;");
        fine(five + "beet 5 0 0;swede 9 0;");
        RootTower t = Texts.tower("beet 5 0 3;");
        is("a HOOK of the text before is free", Texts.read(t, "beet 5 0;swede 5 0 3;"), 0);
        is("HOOK", t.hook(3), 1);
        is("one that had a FAULT, too", Texts.read(t, "beet 5 0 1;beet 5 0 2;beet 5"), 1);
        is("one that had a FAULT, too", Texts.read(t, "beet 5 0 1;beet 5 0 2;"), 0);
    }

    private static void toldTwice() {
        quote("5 a second 'weather', 'lasts', 'tune', 'method', 'note', 'grows'");
        for (String word : new String[] {"weather", "lasts", "tune", "method", "note", "grows"}) {
            fault(5, word + " 1;^" + word + " 1;");
            fault(5, word + " 1;\nturnip 9 0 0;\n^" + word + " 99999;");
            fault(5, word + " 1;^" + word);
            RootTower t = Texts.tower(word + " 1;");
            is("another text tells it anew", Texts.read(t, word + " 1;"), 0);
            is("and again", Texts.read(t, word + " 1;" + word), 5);
            is("and again", Texts.read(t, word + " 1;"), 0);
        }
        fault(5, "weather 1;lasts 1;tune 1;method 1;note 1;grows 1;^note 1;");
        fine("note weather;weather 1;grows weather;");
        fine("note 1;grows 1;");
    }

    private static final String RICH = "turnip 30 3 0;swede 40 4 1;beet 50 5 2;weather 9 8 7;lasts 5;tune 1 2 3;method 1 2 4;note size + 1;grows 9;";

    private static void isBare(RootTower t) {
        row("all as without", t::count, 1, 0, 0, 4, 20, 0, 0, 0, 1, 0, 0, 0, 0, 0);
        row("a ROOT alone", what -> t.root(0, what), 0, 9, 0, 0, 11, -1, 0, 8);
        row("no HOOK", t::hook, -1, -1, -1, -1, -1, -1);
        noneOf("no second ROOT", root -> t.root(root, 0), 1);
        is("the TUNE is none", t.rings(0), true);
        is("nothing to fit", t.fit(-1), 0);
        is("NOTE as without", t.then(0, 0), 11);
        is("GROWS as without", t.then(0, 3), 9);
        is("none is SOFT", t.earliest(), 0);
    }

    private static void allAnew() {
        quote("are a TOWER, all anew");
        for (int times = 1; times <= 3; times++) {
            RootTower t = new RootTower();
            for (int i = 0; i < times; i++) {
                is("much", Texts.read(t, RICH), 0);
                t.days(30);
                is("all of it is asked", t.last(), -1);
                is("all of it is asked", t.fit(-1), -2);
            }
            is("a bare one", Texts.read(t, "turnip 9 0;"), 0);
            isBare(t);
            is("much again", Texts.read(t, RICH), 0);
            row("much again", t::count, 3, 3, 0, 9, 5, 3, 3, 7, 0, 0, 1 << 15);
            row("SOFTNESS", root -> t.root(root, 3), 0, 0, 0);
            is("a FAULT behind much", Texts.read(t, RICH + "sun"), 1);
            is("a bare one", Texts.read(t, "turnip 9 0;"), 0);
            isBare(t);
        }
        RootTower rules = new RootTower();
        for (String rule : new String[] {"1 + 2 * 3 - 4 < 5 or 6 and 7", "not not 4", "not 0", "5", "7",
            "2 + (not 0)", "5 + 4 + 3", "5"}) {
            is("a rule", Texts.read(rules, "beet 9 0;note " + rule + ";grows " + rule + ";"), 0);
            int note = noteBy(rule, "beet 9 0;");
            is("nothing of a longer one is left", rules.root(0, 4), note);
            is("nothing of a longer one is left", rules.days(1), 1);
            is("nothing of a longer one is left", rules.root(0, 1), 9 + Math.min(note, 9));
        }
        RootTower started = new RootTower();
        started.days(7);
        is("a bare one", Texts.read(started, "turnip 9 0;"), 0);
        isBare(started);
    }

    private static void readAnewBehindAFault() {
        quote("The tape's first n bytes (it is empty then) are a TOWER, all anew: 0, or the FAULT (all stays).");
        String[] faulty = {"note ((((1", "note 1 < 2 <", "note not not not not not not not", "note 1 + 2 * (3 < 4 or", "grows (((((1 = 1", "tune 1 2 3 4 5 6 7 8 9",
            "weather 1;lasts 2;tune 3;method 4;note 5;grows 6;lasts", "beet 5 0 0;beet 5 0 1;beet 5 0 0", "turnip 12345", "turnip"};
        String[] fine = {"note (((((1)))));", "note 1 < 2;", "note not not not not not not 1;", "grows 1;note 2;", "turnip 5 0 0;swede 5 0 1;",
            "tune 1 2 3 4 5 6 7 8;", "weather 0 1 2 3 4 5 6 7 8 9;lasts 1;method 1;", "turnip 5 0;".repeat(10), ""};
        RootTower asked = new RootTower();
        int calls = 0;
        for (String first : faulty) {
            for (String then : fine) {
                calls += 24;
                asked = calls > 512 ? new RootTower() : asked;
                calls = calls > 512 ? 24 : calls;
                is("FAULT of " + first, Texts.read(asked, first) > 0, true);
                is(then + " behind " + first, Texts.read(asked, then), 0);
                is("fault", asked.fault(), -1);
            }
        }
        RootTower t = new RootTower();
        is("FAULT", Texts.read(t, "note 7 + 8 * ("), 1);
        is("fine", Texts.read(t, "note 3;turnip 9 0;"), 0);
        is("NOTE", t.root(0, 4), 3);
        is("FAULT", Texts.read(t, "note 7;grows 3;beet 9"), 1);
        is("fine", Texts.read(t, "turnip 9 0;"), 0);
        is("NOTE as without", t.root(0, 4), 11);
    }
}
