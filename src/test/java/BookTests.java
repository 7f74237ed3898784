/** Promises 1 to 5: the tape, the book, its faults and their places. */
public final class BookTests {
    private static final String F = "field f 7 order 3;";
    private static final String LET = F + "let a in f be ";

    private BookTests() {
    }

    public static void main(String[] args) {
        newObject();
        tape();
        bookAndItsRefusals();
        bookThatReplaces();
        form();
        names();
        bounds();
        many();
        deep();
        huge();
        orderOfFaults();
        Due.end();
    }

    private static void newObject() {
        TurningSums sums = new TurningSums();
        Due.is("NONE", TurningSums.NONE, -1);
        Due.is("trouble of a new object", sums.trouble(), 0);
        Due.is("fault of a new object", sums.fault(), 0);
        Due.is("where of a new object", sums.where(), -1);
        for (int what = 0; what <= 7; what++) {
            Due.is("told of a new object", sums.told(what), 0);
        }
        Due.is(sums, "field without a book", sums.field(0, 0), -1, 1);
    }

    private static void tape() {
        TurningSums sums = new TurningSums();
        for (int i = 1; i <= 45; i++) {
            Due.is("feed", sums.feed(0x20202020, -1, 0, 0x7fffffff, 0x20202020), 20 * i);
        }
        Due.is("feed beyond 900", sums.feed(0, 0, 0, 0, 0), -1);
        Due.is("told(7)", sums.told(7), 900);
        Due.is(sums, "book(901)", sums.book(901), -1, 2);
        Due.is("the tape stays", sums.told(7), 900);
        Due.is(sums, "book(4)", sums.book(4), -1, 4);
        Due.is("the end is at fault", sums.where(), 4);
        Due.is("feed after a fault", sums.feed(0, 0, 0, 0, 0), 20);
        TurningSums full = new TurningSums();
        StringBuilder text = new StringBuilder("field f 7 order 3");
        while (text.length() < 900) {
            text.append(' ');
        }
        Due.is(full, "a book of 900 bytes", Due.book(full, text.toString()), 1, 0);
    }

    private static void bookAndItsRefusals() {
        TurningSums sums = new TurningSums();
        Due.is(sums, "book(-1)", sums.book(-1), -1, 2);
        Due.is("fault", sums.fault(), 0);
        Due.is(sums, "book(0)", sums.book(0), -1, 4);
        Due.is("fault", sums.fault(), 1);
        Due.is("where", sums.where(), 0);
        Due.is(sums, "book(1)", sums.book(1), -1, 2);
        Due.is("a refused number leaves the fault", sums.fault(), 1);
        Due.is("where after a refused number", sums.where(), -1);
        Due.feed(sums, "field f 7 order 3 #");
        Due.is("told", sums.told(7), 20);
        Due.is(sums, "book(17)", sums.book(17), 1, 0);
        Due.is("fault", sums.fault(), 0);
        Due.is("told", sums.told(7), 0);
        Due.is(sums, "book behind a book", Due.book(sums, "field f 8 order 3"), -1, 4);
        Due.is("where", sums.where(), 8);
        sums.feed(0, 0, 0, 0, 0);
        Due.is("feed is never refused by a number", sums.where(), 8);
        Due.is("told leaves where", sums.told(0), 1);
        Due.is("where", sums.where(), 8);
        Due.is(sums, "field of the old book", sums.field(0, 0), 7, 0);
        Due.is("where after an answer", sums.where(), -1);
        Due.is("fault stays", sums.fault(), 4);
    }

    private static void bookThatReplaces() {
        TurningSums sums = Due.with("field f 7 order 3;let a in f be 5;equation e in f with 1 to 1 is 0");
        sums.take(0, 0);
        sums.image();
        sums.undo();
        sums.redo();
        sums.undo();
        Due.is("redo is there", sums.told(5), 1);
        Due.is("a faulty book", Due.book(sums, "field g 13 order"), -1);
        Due.is("equations stay", sums.told(1), 1);
        Due.is("lets stay", sums.told(2), 1);
        Due.is("redo stays", sums.told(5), 1);
        Due.is("images stay", sums.told(6), 1);
        Due.is("redo", sums.redo(), true);
        Due.is("register", sums.register(0, 0), 5);
        Due.is("a new book", Due.book(sums, "field g 13 order 4;field h 5 order 2"), 2);
        Due.is("prime", sums.field(0, 0), 13);
        Due.is("equations", sums.told(1), 0);
        Due.is("lets", sums.told(2), 0);
        Due.is("undo", sums.told(4), 0);
        Due.is("redo", sums.told(5), 0);
        Due.is("images", sums.told(6), 0);
        Due.is("register", sums.register(0, 0), 0);
        sums.choose(1);
        sums.choose(1);
        sums.undo();
        Due.is("a third book", Due.book(sums, "field f 11 order 5"), 1);
        Due.is("equations", sums.told(1), 0);
        Due.is("lets", sums.told(2), 0);
        Due.is("field of registers", sums.told(3), 0);
        Due.is("undo", sums.told(4), 0);
        Due.is("redo", sums.told(5), 0);
        Due.is(sums, "undo", sums.undo(), false, 6);
        Due.is(sums, "redo", sums.redo(), false, 6);
        Due.is("prime", sums.field(0, 0), 11);
        Due.is(sums, "the second field is gone", sums.field(1, 0), -1, 1);
    }

    private static void form() {
        Due.fault("", 1, 0);
        Due.fault("   ", 1, 3);
        Due.fault("Field f 7 order 3", 1, 0);
        Due.fault("fields f 7 order 3", 1, 0);
        Due.fault("field f 7 order 3;", 1, 18);
        Due.fault("field f 7 order 3;  ", 1, 20);
        Due.fault("field f 7 order 3;;", 1, 18);
        Due.fault("field f 7 order 3 4", 1, 18);
        Due.fault("field f 7 order 3\t", 1, 17);
        Due.fault("field f 7 order 3" + (char) 233, 1, 17);
        Due.fault("field f 7 order 3" + (char) 0, 1, 17);
        Due.fault("field f" + (char) 10 + "7 order 3", 1, 7);
        Due.fault("field abcdefghi 7 order 3", 1, 6);
        Due.fault("field f 0007 order 3", 1, 8);
        Due.fault("field f 7 orde 3", 1, 10);
        Due.fault("field f 7 order", 1, 15);
        Due.fault("field f 7 order f", 1, 16);
        Due.fault("field 7 7 order 3", 1, 6);
        Due.fault("field", 1, 5);
        Due.fault("field f", 1, 7);
        Due.fault("field f, 7 order 3", 1, 7);
        Due.fault("field f 7; order 3", 1, 9);
        Due.good("field f 007 order 03", 1);
        Due.good("field f 7 order 3 ", 1);
        Due.good("field abcdefgh 7order3;field g13order4", 2);
        Due.good("  field  f  7  order  3  ", 1);
        Due.fault(F + "equation e in f with 1 to 1 is", 1, 48);
        Due.fault(F + "equation e in f with 1 to 1 1", 1, 46);
        Due.fault(F + "equation e in f with 1 1", 1, 41);
        Due.fault(F + "equation e in f with 1 to 1, is 0", 1, 47);
        Due.fault(F + "equation e in f with is 0", 1, 39);
        Due.fault(F + "equation e f", 1, 29);
        Due.fault(F + "equation e in f is 0", 1, 34);
        Due.fault(LET + ")", 1, 32);
        Due.fault(LET + "+1", 1, 32);
        Due.fault(LET + "1)", 1, 33);
        Due.fault(LET + "(1", 1, 34);
        Due.fault(LET + "(1;", 1, 34);
        Due.fault(LET + "()", 1, 33);
        Due.fault(LET + "1 2", 1, 34);
        Due.fault(LET + "1**2", 1, 34);
        Due.fault(LET + "z", 1, 33);
        Due.fault(LET + "z z", 1, 34);
        Due.fault(LET + "z(1)", 1, 33);
        Due.fault(LET + "sum 1", 1, 37);
        Due.fault(LET + "sum 1 1", 1, 38);
        Due.fault(LET + "sum 1,", 1, 38);
        Due.fault(LET + "sum (1),1", 1, 36);
        Due.fault(LET + "conj", 1, 36);
        Due.fault(LET + "conj*1", 1, 36);
        Due.fault(LET + "turn 2", 1, 38);
        Due.fault(LET + "turn z 1", 1, 37);
        Due.fault(LET + "turn conj 1", 1, 37);
        Due.fault(LET + "in", 1, 32);
        Due.fault(LET + "let", 1, 32);
        Due.fault(LET + "1 let", 1, 34);
        Due.fault(LET + "1000", 1, 32);
        Due.fault(F + "let a in f is 1", 1, 29);
        Due.fault(F + "let a be 1", 1, 24);
        Due.fault(F + "let a in f be", 1, 31);
    }

    private static void names() {
        String[] kept = {"field", "equation", "let", "order", "in", "with", "to", "is", "be", "z", "sum", "conj", "turn"};
        for (String word : kept) {
            Due.fault("field " + word + " 7 order 3", 1, 6);
            Due.fault(F + "let a in " + word, 1, 27);
        }
        Due.fault(F + "field f 5 order 2", 3, 24);
        Due.fault(F + "equation f in f with 1 to 1 is 0", 3, 27);
        Due.fault(F + "let f in f be 0", 3, 22);
        Due.fault(LET + "1;let a in f be 1", 3, 38);
        Due.fault(LET + "1;equation a", 3, 43);
        Due.fault(LET + "1;field a", 3, 40);
        Due.fault(F + "equation e in f with 1 to 1 is 0;let e", 3, 55);
        Due.fault("equation e in f", 2, 14);
        Due.fault("let a in f", 2, 9);
        Due.fault(F + "equation e in e", 2, 32);
        Due.fault(F + "equation e in g", 2, 32);
        Due.fault(LET + "1;let b in a", 2, 43);
        Due.fault(LET + "1;equation b in a", 2, 48);
        Due.fault(LET + "a", 2, 32);
        Due.fault(LET + "b;let b in f be 1", 2, 32);
        Due.fault(LET + "f", 2, 32);
        Due.fault(F + "equation e in f with 1 to 1 is 0;let a in f be e", 2, 65);
        Due.fault(F + "field g 7 order 3;let a in f be 1;let b in g be a", 2, 66);
        Due.good(F + "field g 7 order 3;let a in f be 1;let b in f be a;let c in g be 1", 2);
        Due.good("field ff 7 order 3;let f in ff be 1;let fff in ff be f;let ffffffff in ff be fff", 1);
    }

    private static void bounds() {
        Due.fault("field f 2 order 2", 4, 8);
        Due.fault("field f 0 order 2", 4, 8);
        Due.fault("field f 1 order 2", 4, 8);
        Due.fault("field f 9 order 2", 4, 8);
        Due.fault("field f 197 order 11", 4, 18);
        Due.fault("field f 211 order 2", 4, 8);
        Due.fault("field f 201 order 2", 4, 8);
        Due.fault("field f 169 order 2", 4, 8);
        Due.good("field f 3 order 2;field g 199 order 11;field h 197 order 7;field i 157 order 12", 4);
        Due.fault("field f 7 order 1", 4, 16);
        Due.fault("field f 7 order 0", 4, 16);
        Due.fault("field f 7 order 4", 4, 16);
        Due.fault("field f 53 order 13", 4, 17);
        Due.fault(F + "equation e in f with 0 to 1 is 0", 4, 39);
        Due.fault(F + "equation e in f with 7 to 1 is 0", 4, 39);
        Due.good(F + "equation e in f with 6 to 12,1 to 1 is 6", 1);
        Due.fault(F + "equation e in f with 1 to 0 is 0", 4, 44);
        Due.fault(F + "equation e in f with 1 to 13 is 0", 4, 44);
        Due.fault(F + "equation e in f with 1 to 1 is 7", 4, 49);
        Due.good(LET + "z 99", 1);
        Due.good(LET + "z 0*999-0", 1);
        Due.fault(LET + "z 100", 4, 34);
        Due.fault(LET + "1*z 100", 4, 36);
        Due.fault(LET + "1+(1*z 100", 4, 39);
        Due.fault(LET + "sum 3,0", 4, 36);
        Due.fault(LET + "sum 0,3", 4, 38);
        Due.good(LET + "sum 0,2", 1);
        Due.fault(LET + "turn 0 1", 4, 37);
        Due.fault(LET + "turn 3 1", 4, 37);
        Due.good(LET + "turn 2 1", 1);
        Due.fault("field f 13 order 12;let a in f be turn 9 1", 4, 39);
        Due.good("field f 13 order 12;let a in f be turn 7 1", 1);
        Due.fault("field f 13 order 2;let a in f be turn 2 1", 4, 38);
        Due.good("field f 13 order 2;let a in f be turn 1 1", 1);
    }

    private static void many() {
        String four = "field a 3 order 2;field b 5 order 2;field c 7 order 2;field d 11 order 2";
        Due.good(four, 4);
        Due.fault(four + ";field", 5, four.length() + 1);
        Due.fault(four + "; field a", 5, four.length() + 2);
        String equations = F;
        for (char name = 'a'; name <= 'd'; name++) {
            equations += "equation " + name + " in f with 1 to 1 is 0;";
        }
        Due.good(equations + "let e in f be 1", 1);
        Due.fault(equations + "equation", 5, equations.length());
        String lets = F;
        for (char name = 'g'; name <= 'n'; name++) {
            lets += "let " + name + " in f be 1;";
        }
        Due.good(lets + "field o 5 order 2", 2);
        Due.fault(lets + "let 5", 5, lets.length());
        String three = F + "equation e in f with 1 to 1,2 to 2,3 to 3";
        Due.good(three + " is 0", 1);
        Due.fault(three + ",4 to 4 is 0", 5, three.length() + 1);
        Due.fault(three + ", 4", 5, three.length() + 2);
        Due.fault(three + ",", 1, three.length() + 1);
        Due.fault(three + ",is 0", 1, three.length() + 1);
        Due.fault(three + ",0 to 4 is 0", 4, three.length() + 1);
        Due.fault(three + ",7", 4, three.length() + 1);
    }

    private static void deep() {
        Due.good(LET + "((((((((1))))))))", 1);
        Due.fault(LET + "(((((((((1)))))))))", 5, 40);
        Due.fault(LET + "((((((((conj 1))))))))", 5, 40);
        Due.fault(LET + "((((((((turn 9 1))))))))", 5, 40);
        Due.good(LET + "conj conj conj conj conj conj conj conj 1", 1);
        Due.fault(LET + "conj conj conj conj conj conj conj conj conj 1", 5, 72);
        Due.fault(LET + "conj conj conj conj conj conj conj conj (1)", 5, 72);
        Due.fault(LET + "turn 2 turn 2 turn 2 turn 2 turn 2 turn 2 turn 2 turn 2 turn 2 1", 5, 88);
        Due.good(LET + "(conj(turn 1(conj(turn 2 1))))", 1);
        Due.fault(LET + "(conj(turn 1(conj(turn 2(1)))))", 5, 56);
        Due.good(LET + "(1)+(2)*(3)-(4)+(5)*(6)+(7)+(8)+(9)+(10)+conj 1+conj 2", 1);
        Due.fault(LET + "((((((((1))))))))+(((((((((1", 5, 58);
    }

    private static void huge() {
        Due.fault(LET + "999*999*999", 7, 22);
        Due.fault(LET + "999*999*999-999*999*999", 7, 22);
        Due.fault(LET + "0*(999*999*999)", 7, 22);
        Due.good(LET + "0*999*999*999", 1);
        Due.good(LET + "500*500*400", 1);
        Due.fault(LET + "500*500*400+1", 7, 22);
        Due.good(LET + "500*500*400-1+1", 1);
        Due.fault(LET + "1+500*500*400-1", 7, 22);
        Due.good(LET + "0-500*500*400", 1);
        Due.fault(LET + "0-500*500*400-1", 7, 22);
        Due.good(LET + "(500*500*400)*z 1", 1);
        Due.fault(LET + "(1+500*500*400)", 7, 22);
        Due.fault(LET + "conj(500*500*400-500*500*400*z 1)", 7, 22);
        Due.fault(LET + "turn 2 (500*500*400-500*500*400*z 1)", 7, 22);
        Due.fault(LET + "1;let b in f be 999*999*999;let c", 7, 38);
        Due.fault(LET + "500*500*400;let b in f be a+1", 7, 48);
        Due.good(LET + "500*500*400;let b in f be a-1", 1);
        Due.fault(F + "let  abc in f be 999*999*999", 7, 23);
        TurningSums sums = new TurningSums();
        Due.is(sums, "too great", Due.book(sums, LET + "999*999*999"), -1, 4);
        Due.is(sums, "not too great", Due.book(sums, LET + "999*999"), 1, 0);
    }

    private static void orderOfFaults() {
        Due.fault(LET + "999*999*999+", 1, 44);
        Due.fault(LET + "999*999*999)", 1, 43);
        Due.fault(LET + "999*999*999 #", 1, 44);
        Due.fault(LET + "999*999*999+b", 2, 44);
        Due.fault(LET + "999*999*999+z 100", 4, 46);
        Due.fault(LET + "999*999*999;#", 7, 22);
        Due.fault(LET + "999*999*999;", 7, 22);
        Due.fault(LET + "999*999*999;field f", 7, 22);
        Due.fault("field f 9 order 2 #", 4, 8);
        Due.fault("field # 9 order 2", 1, 6);
        Due.fault(F + "let f in g", 3, 22);
        Due.fault(F + "let a in g be #", 2, 27);
    }
}
