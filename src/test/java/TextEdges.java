/** The TEXT of a BY-LAW (promises 15 and 17): each production, each kind of FAULT, what it gives. */
final class TextEdges {
    private TextEdges() {
    }

    static void run() {
        words();
        numbers();
        blanks();
        rules();
        firstRuleThatHolds();
        ruleWithQuestion();
        orAndNot();
        relations();
        sumsAndProducts();
        operands();
        pairs();
        openWithinOneAnother();
        openPairs();
        faultOfAWhole();
        faultOfASign();
        faultOfThe13th();
        endsTooEarly();
        longest();
        wraps();
        divisions();
        truths();
        allSides();
    }

    private static void fault(int place, String... texts) {
        for (String text : texts) {
            Check.due("law of '" + text + "'", Check.law(new PorterTurns(), 0, 0, 0, text), -100 - place);
        }
    }

    private static void sound(String... texts) {
        for (String text : texts) {
            Check.due("law of '" + text + "'", Check.law(new PorterTurns(), 0, 0, 0, text), 0);
        }
    }

    private static void gives(String text, int value) {
        PorterTurns x = new PorterTurns();
        Check.due("law of '" + text + "'", Check.law(x, 0, 0, 0, text), 0);
        Check.due("what '" + text + "' gives", x.says(0, 0, -1, -1), value);
    }

    // ---- what it is made of

    private static void words() {
        Check.sentence(15, "words (a .. z)");
        sound("kind", "weight", "far", "up", "value", "hour", "rain", "late", "men", "day", "age", "strength", "worked");
        fault(0, "a", "z", "x", "kin", "kinds", "kindz", "akind", "zkind", "fa", "u", "upp", "hours", "strengthworked", "to");
        fault(0, "Kind", "KIND", "kIND", "{", "`", "@", "[");
        fault(3, "far{", "far`", "farA", "farZ", "far_", "far.", "far" + (char) 0xe4);
        fault(1, "1a", "1z", "1kind", "1min(1,2)");
    }

    private static void numbers() {
        Check.sentence(15, "numbers (1 to 5 digits)");
        gives("0", 0);
        gives("9", 9);
        gives("10", 10);
        gives("99999", 99999);
        gives("00000", 0);
        gives("00009", 9);
        gives("01234+56789", 1234 + 56789);
        fault(0, "000000", "100000", "999999", "1234567890", "1".repeat(200));
        fault(2, "1+000001", "1+123456", "1 123456");
        fault(1, "(123456)");
    }

    private static void blanks() {
        Check.sentence(15, "blanks (32) may stand between, and must where two words or two numbers would be one");
        gives("  1  +  2  ", 3);
        gives("1+2", 3);
        gives("12", 12);
        gives("5if 1", 5);
        gives("5 if not 0", 5);
        gives("5 if not0", 5);
        gives("5 if 1and 1or 0", 5);
        gives("5 if(1)and(not 0)", 5);
        gives("min ( 3 , 4 ) ; 9", 3);
        fault(2, "1 2", "9 9", "1 far");
        fault(4, "far far", "far weight");
        fault(5, "5 if notfar", "5 if notnot 1");
        fault(7, "5 if 1 andfar");
        fault(1, "1\t", "1\n", "1\r", "1" + (char) 0, "1" + (char) 31, "1" + (char) 33, "1" + (char) 160);
    }

    // ---- its productions

    private static void rules() {
        Check.sentence(15, "T = R { ; R }.");
        sound("1", "1;2", "1;2;3", "1;".repeat(99) + "1");
        fault(0, ";", ";1");
        fault(2, "1;;1", "1;");
        fault(1, "1,2", "1.2", "1:2");
    }

    private static void firstRuleThatHolds() {
        Check.sentence(17, "(T gives the E of the first R that has no Q, or whose Q is not 0; 0 if none.)");
        gives("4; 5", 4);
        gives("0; 5", 0);
        gives("4; 5 if 1", 4);
        gives("4 if 1; 5", 4);
        gives("4 if 0; 5", 5);
        gives("4 if 0 - 1; 5", 4);
        gives("4 if 32768 * 65536; 5", 4);
        gives("4 if 0; 5 if 2; 6", 5);
        gives("4 if 0; 0 if 1; 6", 0);
        gives("4 if 0", 0);
        gives("4 if 0; 5 if 0; 6 if 0", 0);
        gives("1 if 0;".repeat(28) + "9", 9);
    }

    private static void ruleWithQuestion() {
        Check.sentence(15, "R = E, or E if Q.");
        gives("1 < 2 if 1", 1);
        gives("7 if 1 or 0", 7);
        gives("7 if not 0", 7);
        gives("7 if 1 < 2", 7);
        fault(0, "if 1", "not 1", "or 1", "and 1");
        fault(2, "1 and 1", "1 or 1", "1 not 1");
        fault(5, "1 if ;", "1 if if 1");
        fault(7, "1 if 1 if 1", "1 if 1 1");
    }

    private static void orAndNot() {
        Check.sentence(15, "Q = A { or A }. A = B { and B }. B = not B, or E.");
        gives("7 if 1 or 0 and 0", 7);
        gives("7 if 0 and 0 or 1", 7);
        gives("7 if (1 or 0) and 0", 0);
        gives("7 if 0 or 0 or 0 or 1", 7);
        gives("7 if 1 and 1 and 1 and 0", 0);
        gives("7 if not 1 or 1", 7);
        gives("7 if not 0 and 0", 0);
        gives("7 if not 1 and 0", 0);
        gives("7 if not (1 and 0)", 7);
        gives("7 if not not 1", 7);
        gives("7 if not 1 = 2", 7);
        gives("7 if not 0 + 1", 0);
        gives("7 if 0 or not 0", 7);
        fault(5, "7 if or 1", "7 if and 1");
        fault(7, "7 if 1 not 1");
        fault(10, "7 if 1 or or 1", "7 if 1 or and 1");
        fault(11, "7 if 1 and or 1");
        fault(9, "7 if not or 1", "7 if not if 1");
    }

    private static void relations() {
        Check.sentence(15, "E = S, or S RELATION S. RELATION: < = >.");
        gives("1 + 1 < 1 + 2", 1);
        gives("2 * 3 = 7 - 1", 1);
        gives("3 > 1 + 1", 1);
        gives("(1 < 2) < 3", 1);
        gives("3 > (2 > 1)", 1);
        fault(3, "1<2<3", "1=2=3", "1>2>3", "1<2=3", "1=2>3");
        fault(2, "1<=2", "1>=2", "1==2", "1<>2", "1=<2", "1<not 2");
        fault(0, "<1", "=1", ">1");
        fault(1, "1!2", "1!=2");
    }

    private static void sumsAndProducts() {
        Check.sentence(15, "S = P { + P, - P }. P = O { * O, / O }.");
        gives("10 - 3 - 2", 5);
        gives("10 - 3 + 2", 9);
        gives("2 + 3 * 4", 14);
        gives("2 * 3 + 4", 10);
        gives("20 - 8 / 4", 18);
        gives("100 / 7 / 2", 7);
        gives("7 / 2 * 2", 6);
        gives("7 * 2 / 4", 3);
        fault(0, "+1", "-1", "*1", "/1");
        fault(2, "1+-1", "1--1", "1++1", "1**2", "1//2", "1*/2", "1+*2", "1+not 2", "1*not 2");
        fault(1, "1%2", "1^2", "1&2", "1|2");
    }

    private static void operands() {
        Check.sentence(15, "O = number, NAME, ( Q )");
        gives("(5)", 5);
        gives("((5))", 5);
        gives("2 * (3 + 4)", 14);
        gives("(0 or 3)", 1);
        gives("(2 and 3)", 1);
        gives("(not 3)", 0);
        gives("(2 < 3) + (3 < 4)", 2);
        gives("far + 5", 5);
        fault(1, "()", "1(2)", "(if", "(;");
        fault(2, "(1;2)", "(1,2)");
        fault(3, "(1 if 2)", "(1))", "(1)(2)", "(1)1", "(1)far", "far(1)");
        fault(0, ")", ")1");
    }

    private static void pairs() {
        Check.sentence(15, "min ( E , E ), max ( E , E )");
        gives("min(3, 4)", 3);
        gives("min(4, 3)", 3);
        gives("max(3, 4)", 4);
        gives("max(4, 3)", 4);
        gives("min(0 - 3, 4) * 2", -6);
        gives("max(0 - 3, 0 - 4)", -3);
        gives("min(1 < 2, 3 = 4)", 0);
        gives("max((not 0), (0 or 0))", 1);
        gives("max(min(9, 8), min(7, 6))", 8);
        gives("max(32768 * 65536, 0)", 0);
        fault(4, "min()", "min 1", "min min", "min(not 1,2)", "min(,2)");
        fault(5, "min(1)", "min(1;2)");
        fault(6, "min(1,)", "min(1,,2)", "min(1,not 2)", "min(1 or 2,2)", "max(1 if 2,3)");
        fault(7, "min(1,2,3)", "min(1,2;");
        fault(8, "max(1,2 and 3)", "max(1,2 if 3)");
        fault(3, "min+1", "max)", "far(1,2)");
        fault(0, "minmax(1,2)", "mi(1,2)", "maxi(1,2)");
    }

    private static void openWithinOneAnother() {
        Check.sentence(15, "At most 12 of ( and not are open within one another.");
        gives("(".repeat(12) + "7" + ")".repeat(12), 7);
        gives("(".repeat(12) + "7" + "+1)".repeat(12), 19);
        gives("7 if " + "not ".repeat(12) + "1", 7);
        gives("7 if " + "not ".repeat(11) + "1", 0);
        gives("7 if " + "(not ".repeat(6) + "1" + ")".repeat(6), 7);
        gives("7 if " + "not(".repeat(6) + "1" + ")".repeat(6), 7);
        gives("(".repeat(12) + "1" + ")".repeat(12) + "+" + "(".repeat(12) + "1" + ")".repeat(12), 2);
        gives("(1)+".repeat(20) + "1", 21);
        gives("7 if 1" + " and not 0".repeat(19), 7);
        gives("7 if " + "not ".repeat(12) + "1 and " + "not ".repeat(12) + "1", 7);
        gives("7 if " + "not ".repeat(12) + "1;" + "(".repeat(12) + "1" + ")".repeat(12), 7);
    }

    private static void openPairs() {
        Check.sentence(15, "At most 12 of ( and not are open");
        gives("min(".repeat(12) + "1" + ",2)".repeat(12), 1);
        gives("max(1,".repeat(12) + "2" + ")".repeat(12), 2);
        sound("min(".repeat(11) + "(1)" + ",2)".repeat(11));
        sound("min(1,".repeat(11) + "(2)" + ")".repeat(11));
        sound("min(".repeat(12) + "1,2)" + ",(2))" + ",2)".repeat(10));
        fault(48, "min(".repeat(12) + "(1)" + ",2)".repeat(12));
        fault(72, "min(1,".repeat(12) + "(2)" + ")".repeat(12));
        fault(51, "min(".repeat(13) + "1" + ",2)".repeat(13), "min(".repeat(12) + "max(1,2)" + ",2)".repeat(12));
        fault(75, "min(1,".repeat(13) + "2" + ")".repeat(13));
        fault(51, "min(".repeat(12) + "max");
    }

    // ---- its FAULT

    private static void faultOfAWhole() {
        Check.sentence(15, "the place (from 0) of the first byte of the first word, number (as wholes; of more than 5 "
                + "digits), sign or other byte with which no TEXT goes on");
        fault(0, "kindd", "123456", ")", "?");
        fault(4, "1 + kindd", "1 + 123456", "1 + )", "1 + ?", "1 + " + (char) 255);
        fault(2, "1 kind", "1 ifx 1", "1 2345", "1 max", "1 (2)");
        fault(2, "1 ? 123456", "1 2 ?", "1 far 2", "1 ? kindd");
        fault(0, "kindd + kindd", "123456 + 123456", "? ?");
        fault(4, "5 + not 5", "5 + if 5", "5 + mins");
    }

    private static void faultOfASign() {
        Check.sentence(15, "sign or other byte with which no TEXT goes on");
        String signs = "()*+,-/;<=>";
        for (int code = 1; code < 256; code++) {
            char sign = (char) code;
            boolean letter = sign >= 'a' && sign <= 'z';
            if (letter || sign >= '0' && sign <= '9' || sign == ' ') {
                continue;
            }
            boolean goesOn = signs.indexOf(sign) >= 0 && "(),".indexOf(sign) < 0;
            fault(goesOn ? 3 : 2, "1 " + sign);
            fault(sign == '(' ? 2 : 1, " " + sign);
        }
        fault(1, " " + (char) 0);
        fault(2, "1 " + (char) 0);
    }

    private static void faultOfThe13th() {
        Check.sentence(15, "of the 13th that would be open");
        fault(12, "(".repeat(13) + "1" + ")".repeat(13), "(".repeat(13), "(".repeat(200));
        fault(5 + 48, "7 if " + "not ".repeat(13) + "1", "7 if " + "not ".repeat(12) + "(1)", "7 if " + "not ".repeat(13));
        fault(5 + 30, "7 if " + "(not ".repeat(6) + "(1" + ")".repeat(7), "7 if " + "(not ".repeat(6) + "not 1)");
        fault(2 + 12, "1+" + "(".repeat(13));
        fault(16, "(1)+" + "(".repeat(13));
        fault(12, "(".repeat(12) + "not 1" + ")".repeat(12));
    }

    private static void endsTooEarly() {
        Check.sentence(15, "the length, if it ends too early");
        String[] early = {"", " ", "     ", "1+", "1+   ", "1-", "1*", "1/", "1<", "1=", "1>", "(", "(1", "((1)", "(1 or",
            "min", "min(", "min(1", "min(1,", "min(1,2", "max  ", "1 if", "1 if ", "1 if not", "1 if 1 and", "1 if 1 or ",
            "1;", "1; ", "1 if 1;", "(not"};
        for (String text : early) {
            fault(text.length(), text);
        }
    }

    private static void longest() {
        Check.sentence(15, "THE TAPE (at most 200 bytes)");
        gives("1+".repeat(99) + "17", 116);
        gives(" ".repeat(199) + "7", 7);
        gives("7" + " ".repeat(199), 7);
        gives("0<1" + "+0".repeat(98), 1);
        fault(200, "1+".repeat(100));
        fault(199, "1+".repeat(99) + "1)");
        fault(195, " ".repeat(195) + "kindd", " ".repeat(195) + "z1234");
        fault(194, " ".repeat(194) + "123456");
    }

    // ---- what it gives

    private static void wraps() {
        Check.sentence(17, "Ints that wrap");
        gives("32767 * 65536 + 65535", Integer.MAX_VALUE);
        gives("32767 * 65536 + 65535 + 1", Integer.MIN_VALUE);
        gives("32768 * 65536", Integer.MIN_VALUE);
        gives("32768 * 65536 - 1", Integer.MAX_VALUE);
        gives("0 - 32768 * 65536", Integer.MIN_VALUE);
        gives("65536 * 65536", 0);
        gives("99999 * 99999", 99999 * 99999);
        gives("99999 * 99999 * 99999", 99999 * 99999 * 99999);
        gives("32768 * 65536 < 0", 1);
        gives("32768 * 65536 - 1 > 0", 1);
    }

    private static void divisions() {
        Check.sentence(17, "/ towards 0, by 0 it gives 0");
        gives("7 / 2", 3);
        gives("(0 - 7) / 2", -3);
        gives("7 / (0 - 2)", -3);
        gives("(0 - 7) / (0 - 2)", 3);
        gives("1 / 2", 0);
        gives("(0 - 1) / 2", 0);
        gives("7 / 1", 7);
        gives("7 / 0", 0);
        gives("(0 - 7) / 0", 0);
        gives("0 / 0", 0);
        gives("5 + 8 / 0", 5);
        gives("8 / 0 / 2", 0);
        gives("8 / (3 - 3) + 1", 1);
        gives("32768 * 65536 / (0 - 1)", Integer.MIN_VALUE);
        gives("32768 * 65536 / 0", 0);
    }

    private static void truths() {
        Check.sentence(17, "< = > and or not give 1, 0");
        int[][] sides = {{1, 2}, {2, 2}, {3, 2}, {0, 0}, {0, 5}, {5, 0}};
        for (int[] side : sides) {
            int a = side[0];
            int b = side[1];
            gives(a + " < " + b, a < b ? 1 : 0);
            gives(a + " = " + b, a == b ? 1 : 0);
            gives(a + " > " + b, a > b ? 1 : 0);
            gives("(" + a + " and " + b + ")", a != 0 && b != 0 ? 1 : 0);
            gives("(" + a + " or " + b + ")", a != 0 || b != 0 ? 1 : 0);
            gives("(not " + a + ")", a == 0 ? 1 : 0);
        }
        gives("0 - 1 < 0", 1);
        gives("((0 - 1) and (0 - 2))", 1);
        gives("(0 or (0 - 2))", 1);
        gives("(not (0 - 2))", 0);
    }

    private static void allSides() {
        Check.sentence(17, "all sides are worked out");
        gives("(1 or 7 / 0)", 1);
        gives("(0 and 7 / 0)", 0);
        gives("min(1, 7 / 0)", 0);
        gives("3 if 1; 4 / 0", 3);
        gives("4 / 0 if 0; 3", 3);
    }
}
