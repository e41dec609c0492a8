/** The edges of TOKENS, ISLAND, MEMORY, SENTENCE and their FAULTS, sentence by sentence of the document. */
public final class TextEdgesTest {
    private static final int NONE = WidowRow.NONE;
    private static final String[] KEYS = {"widow", "stone", "forgive", "quarrel", "pawn", "deal", "seen", "passed",
        "or", "and", "not", "double", "laid", "held", "of", "fits", "pips", "high", "low", "place"};
    private static final String SIX = "widow a;widow b;widow c;widow d;widow e;widow f;";
    private static final String ISLE = "widow a;widow bb;stone 1 2 a;stone 3 3 bb;stone 0 6 a;";

    private TextEdgesTest() {
    }

    public static void main(String[] args) {
        everyByteAsBlankOrNot();
        wordsOfOneToSevenLetters();
        numbersOfOneToThreeDigits();
        tokensGoOn();
        signs();
        blanksOrNot();
        islandOf900Bytes();
        memoryOf400Bytes();
        sentenceOf200Bytes();
        readWhole();
        linesEndWithSemicolon();
        linesOfAnIsland();
        linesOfAMemory();
        names();
        nameToldOnce();
        sixWidows();
        stonePips();
        stonesOnce();
        stonesWidow();
        twentyEightStones();
        forgives();
        quarrels();
        pawns();
        fullIsland();
        deals();
        dealOnce();
        seens();
        passeds();
        fullMemory();
        conditions();
        measures();
        twentyOnes();
        eightWithin();
        sentenceWidow();
        theFirstFault();
        theLeastFault();
        faultOfTheLatest();
        tapeBehindATextWithAFault();
        whatStaysBehindAFault();
        Due.finish("TextEdgesTest");
    }

    private static void due(String call, long got, long want) {
        Due.due(call, got, want);
    }

    private static WidowRow island(String text, int kind, int answer) {
        WidowRow x = new WidowRow();
        due("island " + text, Due.island(x, text), answer);
        due("fault of island " + text, x.fault(), kind);
        return x;
    }

    private static WidowRow memory(String text, int kind, int answer) {
        WidowRow x = new WidowRow();
        Due.island(x, ISLE);
        due("memory " + text, Due.memory(x, text), answer);
        due("fault of memory " + text, x.fault(), kind);
        return x;
    }

    private static WidowRow sentence(String text, int kind, int answer) {
        WidowRow x = new WidowRow();
        Due.island(x, ISLE);
        due("sentence " + text, Due.sentence(x, text), answer);
        due("fault of sentence " + text, x.fault(), kind);
        return x;
    }

    private static boolean isOneOf(String words, String word) {
        return (" " + words + " ").contains(" " + word + " ");
    }

    private static boolean goesOn(int c) {
        return c >= 'a' && c <= 'z' || c >= '0' && c <= '9';
    }

    // TOKENS of all texts, with blanks (32, 10) between them or not; what is not as told is no TOKEN
    private static void everyByteAsBlankOrNot() {
        for (int c = 0; c < 256; c++) {
            char sign = (char) c;
            boolean blank = c == 32 || c == 10;
            int fault = blank ? 0 : 1;
            String told = "byte " + c + " in ";
            WidowRow x = new WidowRow();
            due(told + "an island", Due.island(x, "pawn" + sign + "7;"), blank ? 1 : goesOn(c) ? -1 : -5);
            due(told + "an island: fault", x.fault(), fault);
            due(told + "front of an island", Due.island(x, sign + ""), blank ? 0 : -1);
            due(told + "front of an island: fault", x.fault(), fault);
            Due.island(x, ISLE);
            due(told + "a memory", Due.memory(x, "deal a 1;" + sign), blank ? 1 : -10);
            due(told + "a memory: fault", x.fault(), fault);
            due(told + "a sentence", Due.sentence(x, "held" + sign), blank ? 1 : goesOn(c) ? -1 : -5);
            due(told + "a sentence: fault", x.fault(), fault);
            due(told + "an empty sentence", Due.sentence(x, sign + ""), blank ? -2 : c == '(' ? -2 : -1);
        }
    }

    // WORDS: small letters, 1 to 7
    private static void wordsOfOneToSevenLetters() {
        for (char c = 'a'; c <= 'z'; c++) {
            island("widow " + c + ";", 0, 1);
        }
        island("widow abcdefg;stone 0 0 abcdefg;", 0, 2);
        island("widow abcdefgh;", 1, -7);
        island("widow abcdefghijklmnopqrstuvwxyz;", 1, -7);
        island("widow zzzzzzz;widow zzzzzz;widow zzzzzzzz;", 1, -34);
        // eight letters whose first seven are a key word or a widow
        island("forgives 1;", 1, -1);
        island("widow abcdefg;stone 0 0 abcdefgh;", 1, -25);
        // words that differ by one letter alone are different ones
        island("widow abcdefg;widow abcdefh;widow bbcdefg;widow a;widow aa;widow aaa;", 0, 6);
    }

    // NUMBERS: 1 to 3 digits
    private static void numbersOfOneToThreeDigits() {
        for (int n = 0; n <= 9; n++) {
            due("pawn " + n, island("pawn " + n + ";", 0, 1).count(4), n);
            due("pawn 0" + n, island("pawn 0" + n + ";", 0, 1).count(4), n);
            due("pawn 00" + n, island("pawn 00" + n + ";", 0, 1).count(4), n);
            due("pawn " + n + n, island("pawn " + n + n + ";", 0, 1).count(4), 11 * n);
        }
        due("pawn 10", island("pawn 10;", 0, 1).count(4), 10);
        due("pawn 098", island("pawn 098;", 0, 1).count(4), 98);
        island("pawn 0000;", 1, -6);
        island("pawn 0005;", 1, -6);
        island("pawn 000;", 0, 1);
        island("pawn 999;", 2, -6);
        island("pawn 1000;", 1, -6);
        island("pawn 42949672965;", 1, -6);
        sentence("pips<000", 0, 1);
        sentence("pips<0000", 1, -6);
    }

    // A WORD, NUMBER goes on as long as small letters and digits do
    private static void tokensGoOn() {
        island("widowa;", 1, -1);
        island("pawn5;", 1, -1);
        island("widow a1;", 1, -7);
        island("widow 1a;", 1, -7);
        island("pawn 5a;", 1, -6);
        island("pawn a5;", 1, -6);
        island("widow a;stone 12a;", 1, -15);
        island("widow a;stone 1 2a;", 1, -17);
        island("widow a;stone 12 a;", 2, -15);
        island("widow a;stone 1 23 a;", 2, -17);
        // what ends a word need not be a blank
        island("widow a\u00ff;", 1, -8);
        island("widow abcdefgA;", 1, -14);
        sentence("notheld", 1, -1);
        sentence("not(held", 1, -9);
        sentence("ofa", 1, -1);
        sentence("pips<5held", 1, -6);
        sentence("pips5", 1, -1);
    }

    // ; < = > ( ) .
    private static void signs() {
        sentence("pips<5 and(pips=5)or pips>5", 0, 4);
        sentence("held.", 1, -5);
        sentence(".", 1, -1);
        sentence("held;", 1, -5);
        sentence("pips<>5", 1, -6);
        sentence("pips<=5", 1, -6);
        sentence("pips.5", 1, -5);
        sentence("pips(5)", 1, -5);
        sentence("pips;5", 1, -5);
        island("widow a.", 1, -8);
        island("widow a=", 1, -8);
        island("(", 1, -1);
        island(".", 1, -1);
        island(";", 1, -1);
    }

    // with blanks (32, 10) between them or not
    private static void blanksOrNot() {
        island("\n\n widow \n a\n;\n\nstone 1\n2 a ;\n", 0, 2);
        island("", 0, 0);
        island(" ", 0, 0);
        island("\n", 0, 0);
        memory("", 0, 0);
        memory("\n \n", 0, 0);
        sentence("not(not(held))and(laid)", 0, 7);
        sentence("\n not\n ( not ( held\n ) ) and\n(\nlaid ) \n", 0, 7);
        sentence("pips<5", 0, 1);
        sentence("pips\n<\n5", 0, 1);
    }

    // an ISLAND is a text of at most 900 bytes; ... the end: how many bytes there are; the most bytes told, if more
    private static void islandOf900Bytes() {
        island(Due.behindBlanks(899, "widow a;"), 0, 1);
        island(Due.behindBlanks(900, "widow a;"), 0, 1);
        island(Due.behindBlanks(901, "widow a;"), 1, -901);
        island(Due.behindBlanks(940, "widow a;"), 1, -901);
        island(Due.behindBlanks(900, ""), 0, 0);
        island(Due.behindBlanks(901, ""), 1, -901);
        island(Due.behindBlanks(940, ""), 1, -901);
        island("widow a;" + Due.behindBlanks(892, ""), 0, 1);
        island("widow a;" + Due.behindBlanks(893, ""), 1, -901);
        island("widow a" + Due.behindBlanks(892, ""), 1, -900);
        island("widow a" + Due.behindBlanks(893, ""), 1, -901);
        island("widow a" + Due.behindBlanks(894, ""), 1, -901);
        // what is behind the 900th byte is not looked at: a fault there is none
        island(Due.behindBlanks(904, "widow a;!!!!"), 1, -901);
        island(Due.behindBlanks(908, "widow a;widow a;"), 1, -901);
        // a fault ahead comes first, at the last byte, too
        island("tide" + Due.behindBlanks(936, ""), 1, -1);
        island(Due.behindBlanks(900, "!") + " ", 1, -900);
        island(Due.behindBlanks(900, ";") + ";", 1, -900);
        island(Due.behindBlanks(899, "pawn") + " 100;", 1, -901);
        island(Due.behindBlanks(896, "pawn") + " 100;", 2, -898);
    }

    // a MEMORY is a text of at most 400 bytes
    private static void memoryOf400Bytes() {
        memory(Due.behindBlanks(399, "deal a 1;"), 0, 1);
        memory(Due.behindBlanks(400, "deal a 1;"), 0, 1);
        memory(Due.behindBlanks(401, "deal a 1;"), 1, -401);
        memory(Due.behindBlanks(400, ""), 0, 0);
        memory(Due.behindBlanks(401, ""), 1, -401);
        memory(Due.behindBlanks(940, ""), 1, -401);
        memory("deal a 1" + Due.behindBlanks(391, ""), 1, -400);
        memory("deal a 1" + Due.behindBlanks(392, ""), 1, -401);
        memory("deal a 1" + Due.behindBlanks(393, ""), 1, -401);
        memory(Due.behindBlanks(409, "deal a 1;deal a 1;"), 1, -401);
        memory(Due.behindBlanks(400, "!") + " ", 1, -400);
        memory("deal z" + Due.behindBlanks(934, ""), 3, -6);
    }

    // a SENTENCE is a text of at most 200 bytes
    private static void sentenceOf200Bytes() {
        sentence(Due.behindBlanks(199, "held"), 0, 1);
        sentence(Due.behindBlanks(200, "held"), 0, 1);
        sentence(Due.behindBlanks(205, "held"), 1, -201);
        sentence(Due.behindBlanks(200, ""), 1, -201);
        sentence(Due.behindBlanks(199, ""), 1, -200);
        sentence(Due.behindBlanks(201, ""), 1, -201);
        sentence("held" + Due.behindBlanks(196, ""), 0, 1);
        sentence("held" + Due.behindBlanks(197, ""), 1, -201);
        sentence("(held" + Due.behindBlanks(194, ""), 1, -200);
        sentence("(held" + Due.behindBlanks(195, ""), 1, -201);
        sentence("(held" + Due.behindBlanks(196, ""), 1, -201);
        sentence("held" + Due.behindBlanks(196, "") + ")", 1, -201);
        sentence("held" + Due.behindBlanks(196, ")"), 1, -200);
        sentence("of z" + Due.behindBlanks(936, ""), 3, -4);
    }

    // TOKENS that begin ahead of it are read whole
    private static void readWhole() {
        island(Due.behindBlanks(906, "widow abcdefg"), 1, -901);
        island(Due.behindBlanks(907, "widow abcdefgh"), 1, -900);
        island(Due.behindBlanks(908, "widow abcdefgh"), 1, -901);
        island(Due.behindBlanks(902, "pawn 099"), 1, -901);
        island(Due.behindBlanks(902, "pawn 100"), 2, -900);
        island(Due.behindBlanks(903, "pawn 100"), 1, -901);
        island(Due.behindBlanks(903, "pawn 0099"), 1, -900);
        island(Due.behindBlanks(904, "widow"), 1, -901);
        island(Due.behindBlanks(905, "widows"), 1, -900);
        island("pawn 1;" + Due.behindBlanks(896, "pawn"), 3, -900);
        island("pawn 1;" + Due.behindBlanks(897, "pawn"), 1, -901);
        memory(Due.behindBlanks(401, "deal a 07"), 1, -401);
        memory(Due.behindBlanks(401, "deal a 08"), 2, -400);
        memory(Due.behindBlanks(402, "deal a 08"), 1, -401);
        memory(Due.behindBlanks(401, "deal bb"), 1, -401);
        memory(Due.behindBlanks(401, "deal bc"), 3, -400);
        sentence(Due.behindBlanks(203, "held"), 1, -201);
        sentence(Due.behindBlanks(204, "helds"), 1, -200);
        sentence(Due.behindBlanks(204, "not of"), 1, -201);
        sentence(Due.behindBlanks(201, "of bc"), 3, -200);
        sentence(Due.behindBlanks(202, "of bc"), 1, -201);
        sentence(Due.behindBlanks(203, "pips<1000"), 1, -200);
        sentence(Due.behindBlanks(202, "pips<100"), 1, -201);
    }

    // { LINE ; }
    private static void linesEndWithSemicolon() {
        island("widow a", 1, -8);
        island("widow a  ", 1, -10);
        island("widow a widow b;", 1, -9);
        island("widow a;;", 1, -9);
        island("widow a;stone 1 2 a", 1, -20);
        island("forgive 1", 1, -10);
        island("forgive 1 2;", 1, -11);
        island("quarrel 1 2", 1, -12);
        island("quarrel 1 2 3;", 1, -13);
        island("pawn 5", 1, -7);
        island("pawn 5 5;", 1, -8);
        memory("deal a 1", 1, -9);
        memory("deal a 1 1;", 1, -10);
        memory("seen 1 2", 1, -9);
        memory("seen 1 2 3;", 1, -10);
        memory("passed a 1", 1, -11);
        memory("passed a 1 2;", 1, -12);
        memory("deal a 1;;", 1, -10);
    }

    // LINE: 'widow' NAME | 'stone' A B WIDOW | 'forgive' N | 'quarrel' N M | 'pawn' N
    private static void linesOfAnIsland() {
        String[] lines = {"widow z;", "stone 1 2 a;", "forgive 1;", "quarrel 1 2;", "pawn 5;"};
        for (String line : lines) {
            island("widow a;" + line, 0, 2);
            for (int cut = 1; cut < line.length(); cut++) {
                WidowRow x = new WidowRow();
                String text = "widow a;" + line.substring(0, cut);
                due("cut short: " + text, Due.island(x, text) < 0, true);
                due("its fault: " + text, x.fault(), 1);
            }
        }
        for (String key : KEYS) {
            boolean can = isOneOf("widow stone forgive quarrel pawn", key);
            island(key, 1, can ? -1 - key.length() : -1);
        }
    }

    private static void due(String call, boolean got, boolean want) {
        Due.due(call, got, want);
    }

    // 'deal' WIDOW N | 'seen' A B | 'passed' WIDOW N
    private static void linesOfAMemory() {
        String[] lines = {"deal a 1;", "seen 1 2;", "passed a 1;"};
        for (String line : lines) {
            memory(line, 0, 1);
            for (int cut = 1; cut < line.length(); cut++) {
                WidowRow x = Due.on(ISLE);
                due("cut short: " + line.substring(0, cut), Due.memory(x, line.substring(0, cut)) < 0, true);
                due("its fault: " + line.substring(0, cut), x.fault(), 1);
            }
        }
        for (String key : KEYS) {
            boolean can = isOneOf("deal seen passed", key);
            memory(key, 1, can ? -1 - key.length() : -1);
        }
    }

    // NAME: a WORD, none of those told here, in a MEMORY or a SENTENCE
    private static void names() {
        for (String key : KEYS) {
            island("widow " + key + ";", 1, -7);
            island("widow " + key.substring(0, key.length() - 1) + ";", 0, 1);
            island("widow " + key.substring(1) + "x;", 0, 1);
            if (key.length() < 7) {
                island("widow " + key + "s;", 0, 1);
                island("widow s" + key + ";", 0, 1);
            }
        }
        island("widow line;widow island;widow memory;widow name;widow all;widow one;", 0, 6);
        island("widow 5;", 1, -7);
        island("widow ;", 1, -7);
        island("widow (;", 1, -7);
    }

    // told once; 3 a NAME told twice (at it)
    private static void nameToldOnce() {
        island("widow a;widow a;", 3, -15);
        island("widow a;widow b;widow b;", 3, -23);
        island("widow a;widow b;widow   a;", 3, -25);
        island("widow a;widow a", 3, -15);
        island("widow a;widow ab;widow ba;widow abc;widow b;", 0, 5);
        island("widow a;widow b;widow c;widow d;widow e;widow a;", 3, -47);
    }

    // 6 WIDOWS at most; 4 a seventh WIDOW (at the LINE's first WORD); numbered from 0
    private static void sixWidows() {
        due("none", island("", 0, 0).count(0), 0);
        due("one", island("widow a;", 0, 1).count(0), 1);
        due("six", island(SIX, 0, 6).count(0), 6);
        island(SIX + "widow g;", 4, -49);
        island(SIX + " \n widow g;", 4, -52);
        island(SIX + "widow a;", 4, -49);
        island(SIX + "pawn 5;widow g;", 4, -56);
        island(SIX + "pawn 5;", 0, 7);
        WidowRow x = island(SIX + "stone 0 0 f;stone 1 1 e;stone 2 2 d;stone 3 3 c;stone 4 4 b;stone 5 5 a;", 0, 12);
        for (int s = 0; s < 6; s++) {
            due("numbered from 0: stone " + s, Due.stone(x, s, 2), 5 - s);
        }
    }

    // 'stone' A B WIDOW (pips 0 to 6 both); 2 a NUMBER that is not as told (at it)
    private static void stonePips() {
        for (int a = 0; a <= 7; a++) {
            for (int b = 0; b <= 7; b++) {
                String text = "widow a;stone " + a + " " + b + " a;";
                WidowRow x = island(text, a == 7 || b == 7 ? 2 : 0, a == 7 ? -15 : b == 7 ? -17 : 2);
                due("first of " + text, Due.stone(x, 0, 0), a == 7 || b == 7 ? Due.REFUSED : a);
                due("second of " + text, Due.stone(x, 0, 1), a == 7 || b == 7 ? Due.REFUSED : b);
            }
        }
        island("widow a;stone 999 0 a;", 2, -15);
        island("widow a;stone 0 999 a;", 2, -17);
        island("widow a;stone 008 0 a;", 2, -15);
        island("widow a;stone 006 000 a;", 0, 2);
        island("widow a;stone a 0 a;", 1, -15);
        island("widow a;stone 0 a 0;", 1, -17);
    }

    // each two once, in whatever order; 3 two pips told again (at the second)
    private static void stonesOnce() {
        island("widow a;stone 0 6 a;stone 6 0 a;", 3, -29);
        island("widow a;stone 0 6 a;stone 0 6 a;", 3, -29);
        island("widow a;stone 6 6 a;stone 6   6 a;", 3, -31);
        island("widow a;widow b;stone 1 2 a;stone 3 4 a;stone 2 1 b;", 3, -49);
        island("widow a;stone 1 2 a;stone 2 1", 3, -29);
        island("widow a;stone 1 2 a;stone 2 1 z;", 3, -29);
        island("widow a;stone 1 1 a;stone 1 2 a;stone 2 2 a;stone 2 3 a;stone 1 3 a;", 0, 6);
    }

    // 3 a NAME not told
    private static void stonesWidow() {
        island("stone 1 2 a;", 3, -11);
        island("stone 1 2 a;widow a;", 3, -11);
        island("widow ab;stone 1 2 a;", 3, -20);
        island("widow a;stone 1 2 ab;", 3, -19);
        island("widow a;stone 1 2 ab", 3, -19);
        island("widow a;stone 1 2 0;", 1, -19);
        for (String key : KEYS) {
            island("widow a;stone 1 2 " + key + ";", 1, -19);
        }
    }

    // 28 STONES at most; 4 a 29th STONE (at the LINE's first WORD); numbered from 0
    private static void twentyEightStones() {
        WidowRow x = island("widow a;" + Due.stones(28, "a"), 0, 29);
        due("28", x.count(1), 28);
        int s = 0;
        for (int a = 0; a < 7; a++) {
            for (int b = a; b < 7; b++) {
                due("number of " + a + " " + b, x.find(a, b), s);
                due("number of " + b + " " + a, x.find(b, a), s);
                s++;
            }
        }
        String full = "widow a;" + Due.stones(28, "a");
        island(full + "stone 0 0 a;", 4, -1 - full.length());
        island(full + " stone 7 7 a;", 4, -2 - full.length());
        island(full + "stone", 4, -1 - full.length());
        island(full + "pawn 5;stone 0 0 a;", 4, -8 - full.length());
        island(full + "widow b;pawn 5;", 0, 31);
        island("widow a;" + Due.stones(27, "a") + "stone 6 6 a;", 0, 29);
        island("widow a;" + Due.stones(27, "a") + "stone 5 6 a;", 3, -8 - 12 * 27 - 9);
    }

    // 'forgive' N (0 to 6; each once); 3 forgive of one told again (at it)
    private static void forgives() {
        for (int n = 0; n <= 8; n++) {
            WidowRow x = island("forgive " + n + ";", n > 6 ? 2 : 0, n > 6 ? -9 : 1);
            due("forgiven " + n, x.count(2), n > 6 ? 0 : 1 << n);
            if (n <= 6) {
                island("forgive " + n + ";forgive " + n + ";", 3, -19);
                island("forgive " + n + ";forgive 00" + n, 3, -19);
                island("forgive " + n + ";forgive " + (n + 1) % 7 + ";", 0, 2);
            }
        }
        due("all forgiven", island(Due.allForgiven(), 0, 7).count(2), 127);
        island(Due.allForgiven() + "forgive 3;", 3, -79);
        due("none forgiven", island("", 0, 0).count(2), 0);
        island("forgive 10;", 2, -9);
        island("forgive;", 1, -8);
        island("forgive a;", 1, -9);
    }

    // 'quarrel' N M (0 to 6 both; each two once, in whatever order; N may be M)
    private static void quarrels() {
        for (int n = 0; n <= 7; n++) {
            for (int m = 0; m <= 7; m++) {
                WidowRow x = island("quarrel " + n + " " + m + ";", n == 7 || m == 7 ? 2 : 0,
                        n == 7 ? -9 : m == 7 ? -11 : 1);
                due("quarrels", x.count(3), n == 7 || m == 7 ? 0 : 1);
                if (n < 7 && m < 7) {
                    island("quarrel " + n + " " + m + ";quarrel " + m + " " + n + ";", 3, -23);
                    island("quarrel " + n + " " + m + ";quarrel " + n + " " + m, 3, -23);
                    due("n on m", x.fits(n, m), 0);
                    due("m on n", x.fits(m, n), 0);
                }
            }
        }
        StringBuilder all = new StringBuilder();
        for (int n = 0; n < 7; n++) {
            for (int m = 0; m <= n; m++) {
                all.append("quarrel ").append(n).append(" ").append(m).append(";");
            }
        }
        due("28 quarrels", island(all.toString(), 0, 28).count(3), 28);
        island(all + "quarrel 0 1;", 3, -1 - all.length() - 10);
        island("quarrel 1 2;quarrel 1 1;quarrel 2 2;quarrel 1 3;", 0, 4);
    }

    // 'pawn' N (0 to 99; once; 5 without); 3 pawn told again (at its WORD)
    private static void pawns() {
        due("without", island("", 0, 0).count(4), 5);
        due("without, new lines", island("widow a;", 0, 1).count(4), 5);
        due("0", island("pawn 0;", 0, 1).count(4), 0);
        due("99", island("pawn 99;", 0, 1).count(4), 99);
        due("100", island("pawn 100;", 2, -6).count(4), 5);
        island("pawn 5;pawn 5;", 3, -8);
        island("pawn 0;pawn 0;", 3, -8);
        island("pawn 5; \npawn;", 3, -10);
        island("pawn 5;pawn", 3, -8);
        island("pawn 5;widow a;pawn 6;", 3, -16);
        WidowRow x = island("pawn 99;", 0, 1);
        due("a new island tells it anew", Due.island(x, "pawn 98;"), 1);
        due("98", x.count(4), 98);
        Due.island(x, "widow a;");
        due("5 without, behind another island", x.count(4), 5);
    }

    /** All lines that an island can have, in one of 900 bytes. */
    private static void fullIsland() {
        StringBuilder all = new StringBuilder(SIX).append(Due.stones(28, "a", "b", "c", "d", "e", "f"));
        all.append(Due.allForgiven());
        for (int n = 0; n < 7; n++) {
            for (int m = 0; m <= n; m++) {
                all.append("quarrel ").append(n).append(" ").append(m).append(";");
            }
        }
        all.append("pawn 99;");
        WidowRow x = island(Due.behindBlanks(900, all.toString()), 0, 70);
        int[] want = {6, 28, 127, 28, 99, 0, 0, 0};
        for (int what = 0; what < 8; what++) {
            due("full island: count " + what, x.count(what), want[what]);
        }
        due("all quarrel", x.fits(3, 3) + x.fits(0, 6), 0);
        for (int w = 0; w < 6; w++) {
            due("full island: stones of " + w, x.widow(w, 0), w < 4 ? 5 : 4);
        }
    }

    // 'deal' WIDOW N (0 to 7)
    private static void deals() {
        for (int n = 0; n <= 9; n++) {
            WidowRow x = memory("deal a " + n + ";", n > 7 ? 2 : 0, n > 7 ? -8 : 1);
            due("lines", x.count(6), n > 7 ? 0 : 1);
        }
        memory("deal a 007;deal bb 000;", 0, 2);
        memory("deal a 999;", 2, -8);
        memory("deal a 1000;", 1, -8);
        memory("deal z 1;", 3, -6);
        memory("deal b 1;", 3, -6);
        memory("deal bbb 1;", 3, -6);
        memory("deal z 8;", 3, -6);
        memory("deal 1 a;", 1, -6);
        for (String key : KEYS) {
            memory("deal " + key + " 1;", 1, -6);
            memory("passed " + key + " 1;", 1, -8);
        }
    }

    // each WIDOW once; 3 a WIDOW told again (at her); 0 without
    private static void dealOnce() {
        memory("deal a 1;deal a 1;", 3, -15);
        memory("deal a 0;deal a 0;", 3, -15);
        memory("deal a 0;deal bb 0;deal  bb 8;", 3, -26);
        memory("deal a 0;deal a", 3, -15);
        memory("deal a 1;deal bb 1;", 0, 2);
        WidowRow x = memory("deal a 3;", 0, 1);
        due("all three are a's", x.dealings(), 1);
        due("none without", x.sure(1), 0);
        due("sure of a", x.sure(0), 7);
        due("a memory tells it anew", Due.memory(x, "deal bb 3;"), 1);
        due("0 without, though told by another memory", x.sure(0), 0);
        due("bb's", x.sure(1), 7);
    }

    // 'seen' A B (a STONE of no matter whose; each two once); 3 two pips told again, or seen that are no STONE
    private static void seens() {
        memory("seen 1 2;", 0, 1);
        memory("seen 2 1;", 0, 1);
        memory("seen 3 3;seen 0 6;seen 2 1;", 0, 3);
        memory("seen 1 2;seen 1 2;", 3, -17);
        memory("seen 1 2;seen 2 1;", 3, -17);
        memory("seen 3 3;seen 3 3", 3, -17);
        memory("seen 1 1;", 3, -8);
        memory("seen 0 0;", 3, -8);
        memory("seen 6 6;", 3, -8);
        memory("seen 1   3;", 3, -10);
        memory("seen 1 3", 3, -8);
        memory("seen 7 1;", 2, -6);
        memory("seen 1 7;", 2, -8);
        memory("seen 0 6;", 0, 1);
        memory("seen 6 0;", 0, 1);
        memory("seen a 1;", 1, -6);
        memory("seen 1 a;", 1, -8);
        WidowRow none = new WidowRow();
        due("no stones", Due.memory(none, "seen 0 0;"), -8);
        due("its fault", none.fault(), 3);
        WidowRow laid = Due.on(ISLE);
        laid.lay(0, 0, 0);
        laid.pawn(1);
        due("laid or in pawn", Due.memory(laid, "seen 1 2;seen 3 3;"), 2);
    }

    // 'passed' WIDOW N (0 to 6; each two once); 3 a WIDOW and number passed again (at the number)
    private static void passeds() {
        for (int n = 0; n <= 8; n++) {
            memory("passed a " + n + ";", n > 6 ? 2 : 0, n > 6 ? -10 : 1);
            if (n <= 6) {
                memory("passed a " + n + ";passed a " + n + ";", 3, -21);
                memory("passed a " + n + ";passed bb " + n + ";passed a 00" + n, 3, -33);
            }
        }
        memory("passed a 0;passed a 1;passed a 2;passed a 3;passed a 4;passed a 5;passed a 6;", 0, 7);
        memory("passed a 0;passed bb 0;passed a 6;passed bb 6;", 0, 4);
        memory("passed bb 0;passed a 0;passed bb   0;", 3, -36);
        memory("passed z 0;", 3, -8);
        memory("passed z 9;", 3, -8);
        memory("passed 0 a;", 1, -8);
    }

    /** As many lines as a memory can have with its 400 bytes: 36. */
    private static void fullMemory() {
        WidowRow x = Due.on("widow a;widow b;widow c;widow d;widow e;widow f;stone 0 0 a;stone 0 1 a;");
        StringBuilder all = new StringBuilder();
        for (int w = 0; w < 6; w++) {
            for (int n = 0; n < 6 && all.length() + 11 <= 400; n++) {
                all.append("passed ").append((char) ('a' + w)).append(" ").append(n).append(";");
            }
        }
        due("36 lines", Due.memory(x, Due.behindBlanks(400, all.toString())), 36);
        due("count 6", x.count(6), 36);
        due("nobody can have any", x.dealings(), 0);
    }

    // COND: ALL { 'or' ALL }. ALL: ONE { 'and' ONE }. ONE: 'not' ONE | ( COND ) | ...
    private static void conditions() {
        String[] ones = {"double", "laid", "held", "of a", "fits", "pips<1", "high=1", "low>1", "place<1"};
        for (String one : ones) {
            sentence(one, 0, 1);
            sentence("not " + one, 0, 2);
            sentence("(" + one + ")", 0, 2);
            sentence(one + " and " + one, 0, 2);
            sentence(one + " or " + one, 0, 2);
            sentence(one + " " + one, 1, -2 - one.length());
            sentence(one + " not " + one, 1, -2 - one.length());
            sentence(one + "(" + one + ")", 1, -1 - one.length());
            sentence(one + " and", 1, -5 - one.length());
            sentence(one + " or", 1, -4 - one.length());
            sentence(one + " or or " + one, 1, -5 - one.length());
            sentence("and " + one, 1, -1);
            sentence("or " + one, 1, -1);
            sentence(one + ")", 1, -1 - one.length());
            sentence("(" + one, 1, -2 - one.length());
            sentence("((" + one + ")", 1, -4 - one.length());
        }
        sentence("()", 1, -2);
        sentence("(held))", 1, -7);
        sentence("not", 1, -4);
        sentence("not and", 1, -5);
        sentence("not(", 1, -5);
        sentence("", 1, -1);
        sentence("   ", 1, -4);
        for (String key : KEYS) {
            boolean can = isOneOf("not double laid held of fits pips high low place", key);
            boolean whole = isOneOf("double laid held fits", key);
            sentence(key, whole ? 0 : 1, whole ? 1 : can ? -1 - key.length() : -1);
        }
    }

    // ( 'pips' | 'high' | 'low' | 'place' ) SIGN NUMBER
    private static void measures() {
        for (String measure : new String[] {"pips", "high", "low", "place"}) {
            int size = measure.length();
            sentence(measure + "<0", 0, 1);
            sentence(measure + "=999", 0, 1);
            sentence(measure + ">000", 0, 1);
            sentence(measure + ">1000", 1, -2 - size);
            sentence(measure, 1, -1 - size);
            sentence(measure + " 5", 1, -2 - size);
            sentence(measure + "<", 1, -2 - size);
            sentence(measure + "< a", 1, -3 - size);
            sentence(measure + "(", 1, -1 - size);
            sentence(measure + "=)", 1, -2 - size);
            sentence(measure + "==1", 1, -2 - size);
            sentence(measure + "=1 1", 1, -4 - size);
        }
    }

    private static String joined(int n, String one, String by) {
        StringBuilder all = new StringBuilder(one);
        for (int k = 1; k < n; k++) {
            all.append(by).append(one);
        }
        return all.toString();
    }

    // 20 ONES; 4 a 21st ONE (at its first TOKEN)
    private static void twentyOnes() {
        sentence(joined(19, "held", " or "), 0, 19);
        sentence(joined(20, "held", " or "), 0, 20);
        sentence(joined(21, "held", " or "), 4, -161);
        sentence(joined(20, "fits", " and "), 0, 20);
        sentence(joined(21, "fits", " and "), 4, -181);
        sentence(joined(10, "(held)", "or"), 0, 20);
        sentence(joined(11, "(held)", "or"), 4, -81);
        sentence(joined(10, "not held", " or "), 0, 20);
        sentence(joined(11, "not held", " or "), 4, -121);
        sentence("laid or " + joined(9, "(held)", "or"), 0, 19);
        sentence("laid or " + joined(10, "(held)", "or"), 4, -82);
        sentence(joined(20, "held", " or ") + " or of a", 4, -161);
        sentence(joined(20, "held", " or ") + " or of z", 4, -161);
        sentence(joined(20, "held", " or ") + " or pips", 4, -161);
        sentence(joined(20, "held", " or ") + " or or", 1, -161);
        sentence(joined(20, "held", " or ") + " held", 1, -158);
        sentence("(((((((laid)))))))or(((((((laid)))))))or((laid))", 0, 19);
        sentence("(((((((laid)))))))or(((((((laid)))))))or((laid))or laid", 0, 20);
        sentence("(((((((laid)))))))or(((((((laid)))))))or((laid))or laid or held", 4, -60);
    }

    // 8 within one another; 4 a ninth within (at its first TOKEN)
    private static void eightWithin() {
        String seven = joined(7, "not", " ");
        sentence(seven + " held", 0, 8);
        sentence(seven + " not held", 4, -33);
        sentence(seven + "(held)", 4, -29);
        sentence(seven + "   (held)", 4, -32);
        sentence(seven + " pips=1", 0, 8);
        sentence(seven + " not of z", 4, -33);
        sentence(seven + " of z", 3, -32);
        sentence("(((((((held)))))))", 0, 8);
        sentence("((((((((held))))))))", 4, -9);
        sentence("(((((((not held)))))))", 4, -12);
        sentence("(((((((held or not held)))))))", 4, -20);
        sentence("(((((((held or held and held)))))))", 0, 10);
        sentence("not(not(not(not held)))", 0, 8);
        sentence("not(not(not(not(held))))", 4, -17);
        sentence("not(not(not(not or)))", 1, -17);
        // those beside one another are not within one another
        sentence("((((held))))or((((held))))or((((held))))", 0, 15);
        sentence("(((((((held)))))))and not not not not not not not held", 0, 16);
        sentence("held or(held and(held or(held and(held or(held and(held or(held)))))))", 0, 15);
        sentence("held or(held and(held or(held and(held or(held and(held or((held))))))))", 4, -61);
    }

    // ONE: 'of' WIDOW; 3 (no such WIDOW)
    private static void sentenceWidow() {
        sentence("of a", 0, 1);
        sentence("of bb", 0, 1);
        sentence("of b", 3, -4);
        sentence("of bbb", 3, -4);
        sentence("of   c or", 3, -6);
        sentence("of 0", 1, -4);
        sentence("of (a)", 1, -4);
        sentence("of", 1, -3);
        for (String key : KEYS) {
            sentence("of " + key, 1, -4);
        }
        WidowRow none = new WidowRow();
        due("no widows", Due.sentence(none, "of a"), -4);
        due("its fault", none.fault(), 3);
    }

    // FAULTS, the first along the text
    private static void theFirstFault() {
        island("tide;forgive 7;", 1, -1);
        island("forgive 7;tide;", 2, -9);
        island("widow a;widow a;forgive 7;", 3, -15);
        island("forgive 7;widow a;widow a;", 2, -9);
        island(SIX + "widow a b c;", 4, -49);
        island("widow a b;" + SIX + "widow g;", 1, -9);
        island("widow a;stone 8 8 z;", 2, -15);
        island("widow a;stone 1 8 z;", 2, -17);
        island("widow a;stone 1 1 z", 3, -19);
        memory("deal z 9", 3, -6);
        memory("passed a 9", 2, -10);
        memory("seen 9 9", 2, -6);
        memory("seen 1 1", 3, -8);
        sentence("of z or of", 3, -4);
        sentence("of or of z", 1, -4);
        sentence("held held or of z", 1, -6);
    }

    // of one TOKEN the least
    private static void theLeastFault() {
        // no name, and not told
        memory("deal seen 1;", 1, -6);
        sentence("of held", 1, -4);
        island("widow a;stone 1 2 stone;", 1, -19);
        // not as told, and no stone
        memory("seen 1 9;", 2, -8);
        // cannot come, and would be a ninth or a 21st
        sentence("(((((((not))))))))", 1, -11);
        sentence("((((((((", 1, -9);
        sentence("(((((((()", 1, -9);
        sentence("(((((((((", 4, -9);
        sentence("(((((((and", 1, -8);
        sentence(joined(20, "held", " or ") + " or )", 1, -161);
        // no token, and not as told
        island("forgive 1000;", 1, -9);
    }

    // fault: of the latest island(), memory() or sentence(); 0 without one and ahead of any
    private static void faultOfTheLatest() {
        WidowRow x = new WidowRow();
        due("ahead of any", x.fault(), 0);
        Due.island(x, "pawn 100;");
        due("island: 2", x.fault(), 2);
        due("it is told again", x.fault(), 2);
        Due.memory(x, "deal z 1;");
        due("memory: 3", x.fault(), 3);
        Due.sentence(x, "not not not not not not not not held");
        due("sentence: 4", x.fault(), 4);
        Due.sentence(x, "held");
        due("sentence without", x.fault(), 0);
        Due.sentence(x, "or");
        due("sentence: 1", x.fault(), 1);
        Due.memory(x, "");
        due("memory without", x.fault(), 0);
        Due.memory(x, "deal");
        due("memory: 1", x.fault(), 1);
        Due.island(x, "");
        due("island without", x.fault(), 0);
        Due.island(x, "widow");
        x.image(0);
        x.restore(0);
        x.undo();
        x.feed(0, 0, 0, 0, 0);
        x.end(0);
        due("other calls do not change it", x.fault(), 1);
    }

    // the tape (empty then, with a FAULT, too, here and below)
    private static void tapeBehindATextWithAFault() {
        WidowRow x = new WidowRow();
        due("island with a fault", Due.island(x, "widow a;!"), -9);
        due("the tape", x.count(7), 0);
        due("end 1", x.end(1), false);
        due("feed", x.feed(0, 0, 0, 0, 0), 20);
        x.end(0);
        due("island", Due.island(x, ISLE), 5);
        due("the tape", x.count(7), 0);
        due("the same tape again is empty: an island of nothing", x.island(), 0);
        Due.island(x, ISLE);
        due("memory with a fault", Due.memory(x, "deal a 1;!"), -10);
        due("the tape", x.count(7), 0);
        due("memory", Due.memory(x, "deal a 1;"), 1);
        due("the tape", x.count(7), 0);
        due("an empty memory", x.memory(), 0);
        due("sentence with a fault", Due.sentence(x, "held!"), -5);
        due("the tape", x.count(7), 0);
        due("sentence", Due.sentence(x, "held"), 1);
        due("the tape", x.count(7), 0);
        due("no sentence in an empty tape", x.sentence(), -1);
        due("feed behind a fault", x.feed(0, 0, 0, 0, 0), 20);
        // a text behind a text that was too long is read from its own begin
        x.end(0);
        due("too long", Due.sentence(x, Due.behindBlanks(940, "")), -201);
        due("the tape", x.count(7), 0);
        due("the next one", Due.sentence(x, "laid or held"), 2);
    }

    // -1 less the place of a FAULT: it stays
    private static void whatStaysBehindAFault() {
        String[] faults = {"!", "widow a;stone 7 7 a;", "widow q;widow q;", SIX + "widow g;", "widow q;forgive 1",
            "forgive 1;quarrel 1 1;pawn 7;pawn 8;", Due.behindBlanks(901, "pawn 9;")};
        for (String text : faults) {
            WidowRow x = Due.on(ISLE + "pawn 3;forgive 2;quarrel 4 4;");
            Due.memory(x, "deal a 2;deal bb 1;");
            Due.sentence(x, "of bb");
            x.lay(0, 0, 0);
            due("a fault", Due.island(x, text) < 0, true);
            int[] want = {2, 3, 4, 1, 3, 1, 2, 0};
            for (int what = 0; what < 8; what++) {
                due("behind the fault: count " + what, x.count(what), want[what]);
            }
            due("its names", Due.sentence(x, "of a or of bb"), 2);
            due("no others", Due.sentence(x, "of q"), -4);
            due("fits", x.fits(2, 5) * 100 + x.fits(4, 4) * 10 + x.fits(1, 1), 101);
            due("undo", x.undo(), 0);
        }
        WidowRow y = Due.on(ISLE);
        Due.memory(y, "deal a 2;deal bb 1;passed bb 0;");
        due("dealings", y.dealings(), 2);
        due("a memory's fault", Due.memory(y, "seen 1 2;deal a 2;passed a 3;passed bb 1;!"), -42);
        due("lines", y.count(6), 3);
        due("dealings", y.dealings(), 2);
        Due.sentence(y, "double or pips=3");
        due("said", y.said(NONE) * 100 + y.said(0) * 10 + y.said(1), 201);
        due("a sentence's fault", Due.sentence(y, "laid and held and double and"), -29);
        due("said", y.said(NONE) * 100 + y.said(0) * 10 + y.said(1), 201);
    }
}
