import java.util.Random;

/** The TEXT: its grammar, its FAULT, what it gives. */
public final class TextTest {
    public static void main(String[] args) {
        faults();
        values();
        openWithinOneAnother();
        longTexts();
        faultsAsByTheGrammar();
        Check.finish();
    }

    private static void fault(String text, int place) {
        Check.due("law of '" + text + "'", Check.law(new PorterTurns(), 0, 0, 0, text), -100 - place);
    }

    private static void sound(String text) {
        Check.due("law of '" + text + "'", Check.law(new PorterTurns(), 0, 0, 0, text), 0);
    }

    private static void gives(String text, int value) {
        PorterTurns x = new PorterTurns();
        Check.due("law of '" + text + "'", Check.law(x, 0, 0, 0, text), 0);
        Check.due("what '" + text + "' gives", x.says(0, 0, -1, -1), value);
    }

    private static void faults() {
        fault("", 0);
        fault("   ", 3);
        fault("+", 0);
        fault("  +", 2);
        fault("1 2", 2);
        fault("1 far", 2);
        fault("1far", 1);
        fault("far1", 3);
        fault("far weight", 4);
        fault("farweight", 0);
        fault("1+", 2);
        fault("1+  ", 4);
        fault("1;", 2);
        fault(";1", 0);
        fault("1;;1", 2);
        fault("1 if", 4);
        fault("1 if ;", 5);
        fault("1 if 1 if 1", 7);
        fault("if 1", 0);
        fault("not 1", 0);
        fault("1 and 1", 2);
        fault("1 or 1", 2);
        fault("1 if not", 8);
        fault("1 if 1 not 1", 7);
        fault("1 if 1 and", 10);
        fault("1 if or 1", 5);
        fault("1<2=3", 3);
        fault("1<not 2", 2);
        fault("(1", 2);
        fault("()", 1);
        fault(")", 0);
        fault("(1))", 3);
        fault("(1;2)", 2);
        fault("(1 if 2)", 3);
        fault("min", 3);
        fault("min 1", 4);
        fault("min()", 4);
        fault("min(1)", 5);
        fault("min(1,2", 7);
        fault("min(1,2,3)", 7);
        fault("min(not 1,2)", 4);
        fault("min(1 or 2,2)", 6);
        fault("max(1,not 2)", 6);
        fault("max(1,2 and 3)", 8);
        fault("123456", 0);
        fault("1+000001", 2);
        fault("Far", 0);
        fault("fAr", 0);
        fault("far.", 3);
        fault("1 . 2", 2);
        fault("1:2", 1);
        fault("1?2", 1);
        fault("1'2", 1);
        fault("1\t+2", 1);
        fault("1\n", 1);
        fault("kin", 0);
        fault("kindd", 0);
        fault("kindz", 0);
        fault("akind", 0);
        fault("strengthworked", 0);
        fault("-1", 0);
        fault("1+-1", 2);
        fault("1,2", 1);
    }

    private static void values() {
        gives("7", 7);
        gives("00007", 7);
        gives(" 99999 ", 99999);
        gives("1if 1", 1);
        gives("1 if not1", 0);
        gives("1 if(1)and(1)", 1);
        gives("2+3*4", 14);
        gives("(2+3)*4", 20);
        gives("10-3-2", 5);
        gives("100/7/2", 7);
        gives("7/2*2", 6);
        gives("7*2/4", 3);
        gives("(0-7)/2", -3);
        gives("7/(0-2)", -3);
        gives("7/0", 0);
        gives("0/0", 0);
        gives("5/0+3", 3);
        gives("99999*99999", 99999 * 99999);
        gives("99999*99999*99999", 99999 * 99999 * 99999);
        gives("32768*65536", Integer.MIN_VALUE);
        gives("32768*65536/(0-1)", Integer.MIN_VALUE);
        gives("32768*65536-1", Integer.MAX_VALUE);
        gives("1<2", 1);
        gives("2<2", 0);
        gives("2=2", 1);
        gives("2=3", 0);
        gives("3>2", 1);
        gives("2>2", 0);
        gives("1+1<1+2", 1);
        gives("(1<2)+(2<3)", 2);
        gives("32768*65536<0", 1);
        gives("(5 or 0)", 1);
        gives("(0 or 0)", 0);
        gives("(5 and 7)", 1);
        gives("(5 and 0)", 0);
        gives("(not 5)", 0);
        gives("(not 0)", 1);
        gives("(not not 5)", 1);
        gives("(5)", 5);
        gives("(not 0 = 1)", 1);
        gives("(not 0 + 1)", 0);
        gives("(1 or 1 and 0)", 1);
        gives("((1 or 1) and 0)", 0);
        gives("(0 and 0 or 1)", 1);
        gives("(not 1 or 1)", 1);
        gives("(not 1 and 0)", 0);
        gives("(not (1 and 0))", 1);
        gives("min(3,4)", 3);
        gives("max(3,4)", 4);
        gives("min(0-3,4)*2", -6);
        gives("max (1<2,0) + min(min(9,8),max(7,6))", 8);
        gives("1 if 0", 0);
        gives("1 if 0; 2", 2);
        gives("1 if 2; 2", 1);
        gives("1 if 0; 2 if 0-1; 3", 2);
        gives("1 if 0; 2 if 0; 3 if 0", 0);
        gives("0; 5", 0);
        gives("4; 5 if 1", 4);
        gives("1<2 if 3 or 0", 1);
        gives("5 if not 0 and not 0", 5);
    }

    private static void openWithinOneAnother() {
        sound("(".repeat(12) + "1" + ")".repeat(12));
        fault("(".repeat(13) + "1" + ")".repeat(13), 12);
        sound("1 if " + "not ".repeat(12) + "1");
        fault("1 if " + "not ".repeat(13) + "1", 5 + 48);
        sound("1 if " + "(not ".repeat(6) + "1" + ")".repeat(6));
        fault("1 if " + "(not ".repeat(6) + "(1" + ")".repeat(7), 5 + 30);
        fault("1 if " + "(not ".repeat(6) + "not 1" + ")".repeat(6), 5 + 30);
        sound("min(".repeat(12) + "1" + ",2)".repeat(12));
        fault("min(".repeat(13) + "1" + ",2)".repeat(13), 51);
        sound("min(1,".repeat(12) + "2" + ")".repeat(12));
        fault("min(1,".repeat(13) + "2" + ")".repeat(13), 75);
        fault("min(".repeat(12) + "max" + ",2)".repeat(12), 51);
        fault("min(".repeat(12) + "max", 51);
        sound("(".repeat(12) + "1" + ")".repeat(12) + "+" + "(".repeat(12) + "1" + ")".repeat(12));
        sound("1 if not 1 and not 1 and not 1 and not 1 and not 1 and not 1 and not 1 and not 1 and not 1 and not 1 "
                + "and not 1 and not 1 and not 1");
        sound("1 if " + "not ".repeat(12) + "1 or " + "(".repeat(12) + "1" + ")".repeat(12));
        gives("1 if " + "not ".repeat(11) + "0", 1);
        gives("1 if " + "not ".repeat(12) + "0", 0);
        gives("(".repeat(12) + "7" + "+1)".repeat(12), 19);
    }

    private static void longTexts() {
        String ones = "1+".repeat(99) + "17";
        Check.due("200 bytes", ones.length(), 200);
        gives(ones, 116);
        fault("1+".repeat(100), 200);
        gives("0 if 0;".repeat(28) + "9", 9);
        gives("1;".repeat(99) + "1", 1);
        gives("1+(0<1+1*(0<1+1*(0<1+1*(0<1+1*(0<1+1*(0<1+1*(0<1+1*(0<1+1*(0<1+1*(0<1+1*(0<1+1*(0<1+1*2))))))))))))", 2);
        gives("0+" + "(0or 1and 0<1+1*".repeat(11) + "1" + ")".repeat(11), 1);
    }

    private static void faultsAsByTheGrammar() {
        Grammar grammar = new Grammar();
        RandomTexts texts = new RandomTexts(new Random(31));
        for (int i = 0; i < 4000; i++) {
            String text = i % 8 == 0 ? texts.sound() : i % 8 == 1 ? texts.nested() : texts.doubtful();
            if (text.length() <= 200) {
                int place = grammar.fault(text);
                Check.due("law of '" + text + "'", Check.law(new PorterTurns(), 0, 0, 0, text),
                        place < 0 ? 0 : -100 - place);
            }
        }
    }
}
