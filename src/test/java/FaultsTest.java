/** Texts of all three kinds with each of the faults, and the longest ones there can be. */
public final class FaultsTest {
    private static final String SIX = "widow a;widow b;widow c;widow d;widow e;widow f;";
    private static final String ISLE = "widow a;widow b;stone 1 2 a;stone 3 3 b;";

    private FaultsTest() {
    }

    public static void main(String[] args) {
        islands();
        longIslands();
        memories();
        longMemories();
        sentences();
        longSentences();
        Due.finish("FaultsTest");
    }

    private static void island(String text, int kind, int answer) {
        WidowRow x = new WidowRow();
        Due.due("island " + text, Due.island(x, text), answer);
        Due.due("fault of island " + text, x.fault(), kind);
    }

    private static void memory(String text, int kind, int answer) {
        WidowRow x = new WidowRow();
        Due.island(x, ISLE);
        Due.due("memory " + text, Due.memory(x, text), answer);
        Due.due("fault of memory " + text, x.fault(), kind);
    }

    private static void sentence(String text, int kind, int answer) {
        WidowRow x = new WidowRow();
        Due.island(x, ISLE);
        Due.due("sentence " + text, Due.sentence(x, text), answer);
        Due.due("fault of sentence " + text, x.fault(), kind);
    }

    private static String filled(String text, int size) {
        StringBuilder all = new StringBuilder(text);
        while (all.length() < size) {
            all.append(all.length() % 7 == 0 ? '\n' : ' ');
        }
        return all.toString();
    }

    private static void islands() {
        island("widow a", 1, -8);
        island("widow a ; ;", 1, -11);
        island("widow  5;", 1, -8);
        island("widow;", 1, -6);
        island("widow", 1, -6);
        island("widow  ", 1, -8);
        island("widows a;", 1, -1);
        island("Widow a;", 1, -1);
        island("widow abcdefg;", 0, 1);
        island("widow abcdefgh;", 1, -7);
        island("widow a1;", 1, -7);
        island("widow\na\n;", 0, 1);
        island("widow\ta;", 1, -6);
        island("widowa;", 1, -1);
        island("widow a.", 1, -8);
        for (String key : "widow stone forgive quarrel pawn deal seen passed or and not double laid held of fits pips high low place".split(" ")) {
            island("widow " + key + ";", 1, -7);
            island("widow a;stone 1 2 " + key + ";", 1, -19);
            island("widow " + key.charAt(0) + ";", 0, 1);
        }
        island("widow a;widow b;widow a;", 3, -23);
        island(SIX, 0, 6);
        island(SIX + "widow g;", 4, -49);
        island(SIX + "widow a;", 4, -49);
        island(SIX + "widow", 4, -49);
        island("widow a;stone 0 6 a;stone 00 006 a;", 3, -30);
        island("widow a;stone 0 0 a;stone 0 0 a;", 3, -29);
        island("widow a;stone 7 8 a;", 2, -15);
        island("widow a;stone 0 7 a;", 2, -17);
        island("widow a;stone 1000 1 a;", 1, -15);
        island("widow a;stone 1 a;", 1, -17);
        island("widow a;stone 12 a;", 2, -15);
        island("widow a;stone 1 2;", 1, -18);
        island("widow a;stone 1 2 b;", 3, -19);
        island("stone 1 2 a;widow a;", 3, -11);
        island("widow a;stone 1 2 3;", 1, -19);
        island("forgive 0;forgive 6;forgive 3;", 0, 3);
        island("forgive 7;", 2, -9);
        island("forgive 6;forgive 6;", 3, -19);
        island("forgive a;", 1, -9);
        island("quarrel 0 0;quarrel 0 6;quarrel 6 6;", 0, 3);
        island("quarrel 3 3;quarrel 3 3;", 3, -23);
        island("quarrel 5 3;quarrel 3 5;", 3, -23);
        island("quarrel 7 7;", 2, -9);
        island("quarrel 6 7;", 2, -11);
        island("quarrel 6;", 1, -10);
        island("pawn 0;", 0, 1);
        island("pawn 99;", 0, 1);
        island("pawn 100;", 2, -6);
        island("pawn 1;pawn 100;", 3, -8);
        island("pawn 1;pawn", 3, -8);
        island("pawn;", 1, -5);
        island("deal a 1;", 1, -1);
        island("7;", 1, -1);
        island("pawn 5;\u00ff", 1, -8);
        island("pawn 5;\u0000", 1, -8);
    }

    private static void longIslands() {
        StringBuilder stones = new StringBuilder(SIX);
        for (int a = 0; a < 7; a++) {
            for (int b = 0; b <= a; b++) {
                stones.append("stone ").append(a).append(" ").append(b).append(" a;");
            }
        }
        island(stones.toString(), 0, 34);
        island(stones + "stone 1 1 a;", 4, -1 - stones.length());
        island(stones + "stone", 4, -1 - stones.length());
        island(filled("widow a;", 900), 0, 1);
        island(filled("widow a;", 901), 1, -901);
        island(filled("widow a;", 940), 1, -901);
        island(filled("widow a", 940), 1, -901);
        island(filled("widow", 899) + "a;", 1, -901);
        island(filled("widow", 898) + "a;", 0, 1);
        island(filled("widow", 899) + "abcdefg;", 1, -901);
        island(filled("widow", 899) + "abcdefgh;", 1, -900);
        island(filled("forgive", 899) + "7;", 2, -900);
        island(filled("forgive", 899) + "03", 1, -901);
        island(filled("forgive", 899) + "07", 2, -900);
        island(filled("forgive", 900) + "7;", 1, -901);
        island(filled("tide", 940), 1, -1);
    }

    private static void memories() {
        memory("deal a 0;deal b 7;", 0, 2);
        memory("deal b 8;", 2, -8);
        memory("deal c 1;", 3, -6);
        memory("deal c 8;", 3, -6);
        memory("deal deal 1;", 1, -6);
        memory("deal a 1;deal a 8;", 3, -15);
        memory("deal a 0;deal b 0;deal a 0;", 3, -24);
        memory("deal 1 a;", 1, -6);
        memory("seen 2 1;", 0, 1);
        memory("seen 2 2;", 3, -8);
        memory("seen 2 1;seen 1 2;", 3, -17);
        memory("seen 3 3;seen 3 3;", 3, -17);
        memory("seen 7 1;", 2, -6);
        memory("seen 1 7;", 2, -8);
        memory("seen 1;", 1, -7);
        memory("passed a 0;passed b 0;passed a 6;", 0, 3);
        memory("passed a 0;passed b 0;passed a 0;", 3, -32);
        memory("passed a 0;passed a 1;passed a 0;", 3, -32);
        memory("passed a 7;", 2, -10);
        memory("passed of 7;", 1, -8);
        memory("passed c 1;", 3, -8);
        memory("passed a;", 1, -9);
        memory("widow z;", 1, -1);
        memory(";", 1, -1);
        memory("deal a 1", 1, -9);
        memory("  ", 0, 0);
    }

    private static void longMemories() {
        memory(filled("deal a 1;", 400), 0, 1);
        memory(filled("deal a 1;", 401), 1, -401);
        memory(filled("deal a", 399) + "03;", 1, -401);
        memory(filled("deal a", 399) + "08;", 2, -400);
        memory(filled("deal a", 400) + "8;", 1, -401);
        memory(filled("deal a", 940), 1, -401);
        memory(filled("deal z", 940), 3, -6);
    }

    private static void sentences() {
        sentence("held", 0, 1);
        sentence("(held)", 0, 2);
        sentence("not held or held and(laid)", 0, 5);
        sentence("pips<999", 0, 1);
        sentence("pips<1000", 1, -6);
        sentence("pips 5", 1, -6);
        sentence("pips < = 5", 1, -8);
        sentence("pips < a", 1, -8);
        sentence("high", 1, -5);
        sentence("low =", 1, -6);
        sentence("place > ;", 1, -9);
        sentence("of a", 0, 1);
        sentence("of c", 3, -4);
        sentence("of of", 1, -4);
        sentence("of 1", 1, -4);
        sentence("of", 1, -3);
        sentence("a", 1, -1);
        sentence("or held", 1, -1);
        sentence("held or", 1, -8);
        sentence("held and or held", 1, -10);
        sentence("held held", 1, -6);
        sentence("held;", 1, -5);
        sentence("held)", 1, -5);
        sentence("(held", 1, -6);
        sentence("()", 1, -2);
        sentence("not", 1, -4);
        sentence("not not not not not not not held", 0, 8);
        sentence("not not not not not not not not held", 4, -33);
        sentence("not not not not not not not not or", 1, -33);
        sentence("((((((((held))))))))", 4, -9);
        sentence("(((((((held)))))))", 0, 8);
        sentence("(((((((held)))))))and(((((((held)))))))", 0, 16);
        sentence("((((((not held or not of c))))))", 3, -26);
        sentence("((((((((of c))))))))", 4, -9);
        sentence("", 1, -1);
        sentence(" ", 1, -2);
        sentence("widow", 1, -1);
        sentence("deal", 1, -1);
    }

    private static void longSentences() {
        StringBuilder all = new StringBuilder("laid");
        for (int k = 2; k <= 20; k++) {
            all.append(k % 2 == 0 ? " and laid" : " or laid");
        }
        sentence(all.toString(), 0, 20);
        sentence(all + " and laid", 4, -1 - all.length() - 5);
        sentence(all + " and (laid)", 4, -1 - all.length() - 5);
        sentence(all + " and ;", 1, -1 - all.length() - 5);
        sentence(filled("held", 200), 0, 1);
        sentence(filled("held", 201), 1, -201);
        sentence(filled("held", 940), 1, -201);
        sentence(filled("not", 196) + "held", 0, 2);
        sentence(filled("not", 199) + "held", 1, -201);
        sentence(filled("not", 199) + "holds", 1, -200);
        sentence(filled("not", 200) + "holds", 1, -201);
    }
}
