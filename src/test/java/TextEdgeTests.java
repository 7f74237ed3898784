/** The edges of promises 1 to 5 and of the terms of the text: each at the last that is allowed and the first that is not. */
public final class TextEdgeTests {
    private static final String F = "field f 7 order 3;";
    private static final String LET = F + "let a in f be ";
    private static final String POWERS = F + "equation e in f with ";
    private static final int[] FAR = {-1, Integer.MIN_VALUE, Integer.MAX_VALUE, Integer.MIN_VALUE + 1, Integer.MAX_VALUE - 1};
    private static final String[] KEPT = {"field", "equation", "let", "order", "in", "with", "to", "is", "be", "z", "sum", "conj", "turn"};

    private TextEdgeTests() {
    }

    public static void main(String[] args) {
        newObject();
        bytesOfAFeed();
        fullTape();
        bookOfSomeBytes();
        bookOfNone();
        bookThatIsFaulty();
        bookThatIsGood();
        faultAndWhere();
        everyByte();
        lengthsOfWords();
        lengthsOfWholes();
        blanksPartTokens();
        lines();
        Due.end();
    }

    private static void newObject() {
        TurningSums sums = new TurningSums();
        Due.is("trouble", sums.trouble(), 0);
        Due.is("fault", sums.fault(), 0);
        Due.is("where", sums.where(), -1);
        for (int what = 0; what <= 7; what++) {
            Due.is("told " + what, sums.told(what), 0);
        }
        Due.is("trouble behind told", sums.trouble(), 0);
        Due.is("led", Twins.led(sums, 0, 0), Twins.THROWN);
        Due.is("trouble behind led", sums.trouble(), 0);
        Due.is("feed", sums.feed(0, 0, 0, 0, 0), 20);
        Due.is("trouble behind feed", sums.trouble(), 0);
    }

    /** The highest byte of a number first, also below 0: a byte that begins no token is met at its own place. */
    private static void bytesOfAFeed() {
        String text = " 1+1+1+1+1+1+1+1+1+1";
        for (int i = 0; i < 20; i++) {
            for (int odd : new int[] {0, 31, 33, 127, 128, 255}) {
                TurningSums sums = new TurningSums();
                Due.feed(sums, "field f 7 order 3;  let a in f be       ");
                int[] bytes = Due.bytes(text);
                bytes[i] = odd;
                int[] n = new int[5];
                for (int j = 0; j < 20; j++) {
                    n[j / 4] = n[j / 4] * 256 + bytes[j];
                }
                Due.is("feed", sums.feed(n[0], n[1], n[2], n[3], n[4]), 60);
                Due.is(sums, "byte " + i + " is " + odd, sums.book(60), -1, 4);
                Due.is("where byte " + i + " is " + odd, sums.where(), 40 + i);
            }
        }
    }

    private static String filled(String text, int length) {
        StringBuilder filled = new StringBuilder();
        while (filled.length() + text.length() < length) {
            filled.append(' ');
        }
        return filled.append(text).toString();
    }

    private static void fullTape() {
        // The last token stands on the last bytes, so that a byte more or less would be seen.
        String text = filled("field f 37 order 12", 900);
        Twins almost = new Twins(sums -> Due.feed(sums, text.substring(0, 860)));
        almost.leaves("told", 860, sums -> sums.told(7));
        Twins full = new Twins(sums -> Due.feed(sums, text));
        full.leaves("feed of a 901st byte", -1, sums -> sums.feed(0x31313131, 0, 0, 0, 0));
        full.leaves("feed of blanks", -1, sums -> sums.feed(0x20202020, 0x20202020, 0x20202020, 0x20202020, 0x20202020));
        full.leaves("told", 900, sums -> sums.told(7));
        full.refuses("book(901)", 2, -1, sums -> sums.book(901));
        full.refuses("book(-1)", 2, -1, sums -> sums.book(-1));
        TurningSums sums = new TurningSums();
        for (int have = 20; have <= 900; have += 20) {
            Due.is("feed to " + have, sums.feed(0, 0, 0, 0, 0), have);
            Due.is("told(7)", sums.told(7), have);
        }
        for (int again = 0; again < 3; again++) {
            Due.is("feed beyond", sums.feed(1, 2, 3, 4, 5), -1);
            Due.is("told(7)", sums.told(7), 900);
        }
        Due.is("trouble: feed is not refused by a number", sums.trouble(), 0);
        Due.is(sums, "book(0)", sums.book(0), -1, 4);
        Due.is("an empty tape", sums.told(7), 0);
        Due.is("feed again", sums.feed(0, 0, 0, 0, 0), 20);
        TurningSums whole = full.made();
        Due.is(whole, "book(900)", whole.book(900), 1, 0);
        Due.is("order", whole.field(0, 1), 12);
        TurningSums less = full.made();
        Due.is(less, "book(899)", less.book(899), -1, 4);
        Due.is("order 1", less.fault(), 4);
        Due.is("its place", less.where(), 898);
        TurningSums least = full.made();
        Due.is(least, "book(898)", least.book(898), -1, 4);
        Due.is("no order", least.fault(), 1);
        Due.is("the end", least.where(), 898);
        String far = filled("let a in f be 1)", 900 - F.length());
        Due.fault(F + far, 1, 899);
        Due.fault(F + filled("let a in f be 1+", 900 - F.length()), 1, 900);
        Due.fault(F + filled(";", 900 - F.length()), 1, 899);
        Due.good(F + filled("let a in f be 1", 900 - F.length()), 1);
        longSum();
    }

    /** The longest of sums that the tape holds, and the longest of products. */
    private static void longSum() {
        StringBuilder text = new StringBuilder(LET).append('0');
        while (text.length() + 2 <= 900) {
            text.append("-1");
        }
        TurningSums sums = Due.with(text.toString());
        Due.is("a long sum", sums.let(0, 0), -(900 - LET.length() - 1) / 2);
        Due.fault(text.append('-').substring(0, 900).replaceAll(".$", "#"), 1, 899);
        StringBuilder product = new StringBuilder(LET).append('1');
        while (product.length() + 3 <= 900) {
            product.append("*z1");
        }
        int factors = (product.length() - LET.length() - 1) / 3;
        TurningSums turned = Due.with(product.toString());
        Due.is("a long product", turned.let(0, 0), factors % 3 == 0 ? 1 : factors % 3 == 1 ? 0 : -1);
        Due.is("a long product", turned.let(0, 1), factors % 3 == 0 ? 0 : factors % 3 == 1 ? 1 : -1);
    }

    private static void bookOfSomeBytes() {
        Twins twenty = new Twins(sums -> Due.feed(sums, "field f 61 order 12;"));
        for (int n : FAR) {
            twenty.refuses("book(" + n + ")", 2, -1, sums -> sums.book(n));
        }
        twenty.refuses("book(21)", 2, -1, sums -> sums.book(21));
        int[][] due = {{0, 1, 0}, {4, 1, 0}, {5, 1, 5}, {6, 1, 6}, {7, 1, 7}, {8, 1, 8}, {9, 4, 8}, {10, 1, 10}, {11, 1, 11}, {12, 1, 11},
            {16, 1, 16}, {17, 1, 17}, {18, 4, 17}, {20, 1, 20}};
        for (int[] one : due) {
            TurningSums sums = twenty.made();
            Due.is(sums, "book(" + one[0] + ")", sums.book(one[0]), -1, 4);
            Due.is("fault of book(" + one[0] + ")", sums.fault(), one[1]);
            Due.is("where of book(" + one[0] + ")", sums.where(), one[2]);
            Due.is("the tape is empty behind book(" + one[0] + ")", sums.told(7), 0);
            Due.is(sums, "book(1)", sums.book(1), -1, 2);
        }
        TurningSums sums = twenty.made();
        Due.is(sums, "book(19)", sums.book(19), 1, 0);
        Due.is("the tape is empty, also of what was not read", sums.told(7), 0);
        Due.is(sums, "book(1)", sums.book(1), -1, 2);
        Due.is("a number refuses, the fault stays 0", sums.fault(), 0);
        Due.is("the next bytes come first", Due.book(sums, "field g 5 order 4"), 1);
        Due.is("prime", sums.field(0, 0), 5);
    }

    private static void bookOfNone() {
        Twins empty = new Twins(sums -> { });
        empty.refuses("book(1)", 2, -1, sums -> sums.book(1));
        empty.refuses("book(-1)", 2, -1, sums -> sums.book(-1));
        Due.fault("", 1, 0);
        Due.fault(" ", 1, 1);
        Due.fault("                    ", 1, 20);
        Due.fault(";", 1, 0);
    }

    private static void past(TurningSums sums) {
        Due.book(sums, F + "field g 13 order 4;equation e in f with 1 to 2 is 3;let a in f be z 1+5;let b in g be 7");
        sums.take(1, 0);
        sums.image();
        sums.choose(1);
        sums.take(2, 1);
        sums.undo();
    }

    private static void bookThatIsFaulty() {
        TurningSums sums = new TurningSums();
        past(sums);
        TurningSums other = new TurningSums();
        past(other);
        String[] faulty = {"", "field f 9", "field f 7 order 3;field f", "field a 3 order 2;let b in a be 999*999*999",
            "field a 3 order 2;equation e in a with 1 to 1 is 1;let l in a be 5;let m in a be z 1;field b 5 order 2;field"};
        for (String text : faulty) {
            Due.is(sums, "book '" + text + "'", Due.book(sums, text), -1, 4);
            Due.is("tape", sums.told(7), 0);
        }
        // So that both have the same latest fault.
        Due.book(other, faulty[faulty.length - 1]);
        Twins.alike("faulty books", sums, other);
    }

    private static void bookThatIsGood() {
        TurningSums sums = new TurningSums();
        past(sums);
        sums.image();
        sums.image();
        sums.image();
        Due.is("redo there is", sums.told(5), 1);
        Due.is("a book", Due.book(sums, "field a 3 order 2"), 1);
        TurningSums other = new TurningSums();
        Due.is("a book", Due.book(other, "field a 3 order 2"), 1);
        Due.is("trouble", sums.trouble(), 0);
        Due.is("fault", sums.fault(), 0);
        Due.is(sums, "image, being the first again", sums.image(), 0, 0);
        Due.is(other, "image", other.image(), 0, 0);
        Twins.alike("an older book", sums, other);
        for (int fields = 1; fields <= 4; fields++) {
            StringBuilder text = new StringBuilder("field a 3 order 2");
            for (int i = 1; i < fields; i++) {
                text.append(";field ").append((char) ('a' + i)).append(" 5 order 4");
            }
            Due.good(text.toString(), fields);
        }
    }

    /** What tells no number of trouble leaves the place of a fault; what does takes it away, refused or not. */
    private static void faultAndWhere() {
        Twins faulty = new Twins(sums -> {
            past(sums);
            Due.book(sums, "field f 7 order 4");
            Due.feed(sums, "field q 11 order 5");
        });
        faulty.leaves("feed", 40, sums -> {
            int have = sums.feed(0, 0, 0, 0, 0);
            Due.is("where", sums.where(), 16);
            Due.is("trouble", sums.trouble(), 4);
            Due.is("fault", sums.fault(), 4);
            sums.book(38);
            Due.feed(sums, "field f 7 order 4");
            sums.book(17);
            Due.feed(sums, "field q 11 order 5");
            return have;
        });
        faulty.leaves("fault", 4, sums -> sums.fault());
        faulty.leaves("where", 16, sums -> sums.where());
        faulty.leaves("trouble", 4, sums -> sums.trouble());
        faulty.leaves("told", 2, sums -> sums.told(0));
        faulty.leaves("told of none", -1, sums -> sums.told(8));
        faulty.leaves("led", 1, sums -> Twins.led(sums, 0, 0));
        faulty.leaves("led of none", Twins.THROWN, sums -> Twins.led(sums, 9, 0));
        faulty.refuses("book(21)", 2, -1, sums -> sums.book(21));
        faulty.answers("sign", 1, sums -> sums.sign(1, 3));
        faulty.refuses("sign", 1, -2, sums -> sums.sign(1, 2));
        TurningSums sums = faulty.made();
        Due.is("fault", sums.fault(), 4);
        sums.book(99);
        Due.is("fault behind a refused number", sums.fault(), 4);
        Due.is("where behind a refused number", sums.where(), -1);
        Due.is("a good book", sums.book(18), 1);
        Due.is("fault behind a good book", sums.fault(), 0);
        Due.is("where behind a good book", sums.where(), -1);
        sums.book(1);
        Due.is("fault behind a refused number", sums.fault(), 0);
        TurningSums full = new TurningSums();
        Due.book(full, "field f 7 order 4");
        for (int i = 0; i < 46; i++) {
            full.feed(0, 0, 0, 0, 0);
        }
        Due.is("a feed that takes nothing leaves where", full.where(), 16);
        Due.is("a feed that takes nothing leaves trouble", full.trouble(), 4);
    }

    private static boolean isLetter(int b) {
        return b >= 'a' && b <= 'z';
    }

    private static boolean isDigit(int b) {
        return b >= '0' && b <= '9';
    }

    private static void everyByte() {
        String good = "field f 7 order 3";
        for (int b = 0; b < 256; b++) {
            if (b == ' ') {
                Due.good(good + (char) b, 1);
                Due.good((char) b + good, 1);
                Due.good("field" + (char) b + "f 7 order 3", 1);
                Due.good(LET + "1" + (char) b, 1);
                continue;
            }
            if (isDigit(b)) {
                Due.fault(good + (char) b, 4, 16);
            } else {
                Due.fault(good + (char) b, 1, b == ';' ? 18 : 17);
            }
            Due.fault((char) b + good, 1, 0);
            byteOfAName(b);
            byteOfASum(b);
        }
    }

    private static void byteOfAName(int b) {
        if (isLetter(b) && b != 'z') {
            Due.good("field " + (char) b + " 7 order 3", 1);
        } else {
            Due.fault("field " + (char) b + " 7 order 3", 1, 6);
        }
        if (isLetter(b)) {
            Due.good("field f" + (char) b + "7 order 3", 1);
        } else if (isDigit(b)) {
            String text = "field f" + (char) b + "7 order 2";
            if (isPrime(10 * (b - '0') + 7)) {
                Due.good(text, 1);
            } else {
                Due.fault(text, 4, 7);
            }
        } else {
            Due.fault("field f" + (char) b + "7 order 3", 1, 7);
        }
    }

    private static void byteOfASum(int b) {
        String text = LET + "5" + (char) b + "6";
        if (b == '+' || b == '-' || b == '*') {
            TurningSums sums = Due.with(text);
            Due.is(text, sums.let(0, 0), b == '+' ? 11 : b == '-' ? -1 : 30);
        } else if (isDigit(b)) {
            Due.is(text, Due.with(text).let(0, 0), 506 + 10 * (b - '0'));
        } else if (b == ';') {
            Due.fault(text, 1, LET.length() + 2);
        } else {
            Due.fault(text, 1, LET.length() + 1);
        }
    }

    private static boolean isPrime(int p) {
        for (int d = 2; d < p; d++) {
            if (p % d == 0) {
                return false;
            }
        }
        return p > 1;
    }

    private static void lengthsOfWords() {
        String eight = "abcdefgh";
        Due.good("field " + eight + " 7 order 3;equation " + eight.replace('a', 'b') + " in " + eight + " with 1 to 1 is 1;let "
            + eight.replace('a', 'c') + " in " + eight + " be 1;let d in " + eight + " be " + eight.replace('a', 'c'), 1);
        Due.fault("field " + eight + "i 7 order 3", 1, 6);
        Due.fault("field " + eight + eight + eight + " 7 order 3", 1, 6);
        Due.fault(F + "equation " + eight + "i", 1, 27);
        Due.fault(F + "let " + eight + "i", 1, 22);
        Due.fault(F + "let a in " + eight + "i", 1, 27);
        Due.fault(F + "let a in f be " + eight + "i", 1, 32);
        Due.fault(F + "let a in f be " + eight, 2, 32);
        Due.fault(F + "equationa", 1, 18);
        Due.fault("fieldf 7 order 3", 1, 0);
        Due.fault("field f 7 order 3;equationequation", 1, 18);
        // A word of eight letters and one of nine that begins alike are two.
        Due.fault("field " + eight + " 7 order 3;let a in " + eight + "h be 1", 1, 34);
        // Thirteen letters more would come round where words are kept as numbers of 64 bits.
        Due.fault("aaaaaaaaaaaaafield f 7 order 3", 1, 0);
        for (String word : KEPT) {
            if (word.length() < 8) {
                Due.good("field " + word + "s 7 order 3", 1);
            }
            Due.good("field a" + (word.length() < 8 ? word : word.substring(1)) + " 7 order 3", 1);
            Due.fault("field " + word + " 7 order 3", 1, 6);
            Due.fault(F + "equation " + word + " in f with 1 to 1 is 1", 1, 27);
            Due.fault(F + "let " + word + " in f be 1", 1, 22);
            Due.fault(F + "let a in " + word + " be 1", 1, 27);
            if (word.length() > 1) {
                Due.good("field " + word.substring(1) + " 7 order 3", 1);
                Due.fault(word.substring(1) + " f 7 order 3", 1, 0);
            }
        }
    }

    private static void lengthsOfWholes() {
        Due.good("field f 7 order 3", 1);
        Due.good("field f 07 order 03", 1);
        Due.good("field f 007 order 003", 1);
        Due.fault("field f 0007 order 3", 1, 8);
        Due.fault("field f 7 order 0003", 1, 16);
        Due.fault("field f 1999 order 3", 1, 8);
        Due.fault("field f 4294967303 order 3", 1, 8);
        Due.good(POWERS + "001 to 012 is 006", 1);
        Due.fault(POWERS + "0001 to 1 is 1", 1, 39);
        Due.fault(POWERS + "1 to 0001 is 1", 1, 44);
        Due.fault(POWERS + "1 to 1 is 0001", 1, 49);
        Due.is("999", Due.with(LET + "999").let(0, 0), 999);
        Due.is("000", Due.with(LET + "000").let(0, 0), 0);
        Due.fault(LET + "1000", 1, 32);
        Due.fault(LET + "0000", 1, 32);
        Due.good(LET + "z 099", 1);
        Due.fault(LET + "z 0099", 1, 34);
        Due.good(LET + "sum 002,000", 1);
        Due.fault(LET + "sum 0002,000", 1, 36);
        Due.fault(LET + "sum 002,0000", 1, 40);
        Due.good(LET + "turn 002 1", 1);
        Due.fault(LET + "turn 0002 1", 1, 37);
    }

    private static void blanksPartTokens() {
        Due.fault("fi eld f 7 order 3", 1, 0);
        Due.fault("field f 7 or der 3", 1, 10);
        Due.fault("field f 1 3 order 3", 4, 8);
        Due.fault(LET + "1 0", 1, 34);
        Due.fault("field f f 7 order 3", 1, 8);
        Due.good("field f7order3", 1);
        Due.good("   field   f   7   order   3   ", 1);
        Due.good("field f7order3;equation e in f with1to1,2to2is0;let a in f be sum1,1*z1+turn2conj(z2-1)", 1);
        Due.fault("fieldf 7 order 3", 1, 0);
        Due.fault("field f 7 order3;let a inf be 1", 1, 23);
    }

    private static void lines() {
        Due.good("field f 7 order 3", 1);
        Due.fault("field f 7 order 3;", 1, 18);
        Due.fault("field f 7 order 3 ; ", 1, 20);
        Due.fault("field f 7 order 3;;field g 5 order 2", 1, 18);
        Due.fault(";field f 7 order 3", 1, 0);
        Due.fault("field f 7 order 3 field g 5 order 2", 1, 18);
        Due.fault("field f 7 order 3,field g 5 order 2", 1, 17);
        Due.good("field f 7 order 3;let a in f be 1;field g 5 order 2;equation e in g with 1 to 1 is 0", 2);
        Due.fault(POWERS + "1 to 1 is 1 let", 1, 51);
        Due.fault(LET + "1 field", 1, 34);
        Due.fault("f", 1, 0);
        Due.fault("7", 1, 0);
        Due.fault("order", 1, 0);
        Due.fault("equation", 1, 8);
        Due.fault("let", 1, 3);
    }
}
