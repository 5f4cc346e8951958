/** Promises 4 and 6: texts, their faults, and what they say. */
public final class TextTest {
    private static final String REST = " ; stands 0 ; ahead 0 ;";

    private static void due(String call, long got, long want) {
        Checks.due(call, got, want);
    }

    private static int read(String text) {
        return Checks.read(new RingOfStraw(), text);
    }

    private static void stands(String text) {
        due(text, read(text), 1);
    }

    /** The fault is where ^ stands in the text, which isn't part of it. */
    private static void fault(String marked) {
        int place = marked.indexOf('^');
        String text = marked.substring(0, place) + marked.substring(place + 1);
        due(marked, read(text), -100 - place);
    }

    private static void texts() {
        stands("force weight + pace * act ; stands 2 ; ahead 0 ;");
        stands("force 1;stands 1;ahead 1;");
        stands("\n force\n1 ;\n\nstands 1 ; ahead 1 ; \n ");
        stands("force1;stands2;ahead3;");
        stands("force 9999;stands 0000;ahead-1;");
        stands("force weight;stands pace;ahead act;");
        stands("force his;stands cell;ahead knee;");
        stands("force 1 or 2 or 3 and 4 and not 5;stands not not 1<2;ahead 1+1=2*1-0;");
        stands("force(1)*(2);stands((1<2)<3)=0;ahead--1;");
        stands("force 1-1- -1;stands 3*-3;ahead -(1 or 0);");
    }

    private static void faults() {
        fault("^");
        fault("   ^");
        fault("force^");
        fault("force ^");
        fault("force 1^");
        fault("force 1;stands 1;ahead 1^");
        fault("force 1;stands 1;ahead 1  ^");
        fault("force 1;stands 1;^");
        fault("^stands 1;force 1;ahead 1;");
        fault("force 1;^ahead 1;stands 1;");
        fault("force 1;stands 1;^stands 1;");
        fault("force 1;stands 1;ahead 1;^;");
        fault("force 1;stands 1;ahead 1; ^force 1;");
        fault("force 1;^;stands 1;ahead 1;");
        fault("force1^a");
        fault("force 1 ; stands 2 ; ^aheadweight ;");
    }

    private static void faultsOfTokens() {
        fault("^#force 1" + REST);
        fault("^Force 1" + REST);
        fault("^forced 1" + REST);
        fault("^forc 1" + REST);
        fault("^forceforce 1" + REST);
        fault("force ^weigh" + REST);
        fault("force ^weights" + REST);
        fault("force ^a" + REST);
        fault("force ^notweight" + REST);
        fault("force not5^x" + REST);
        fault("force not ^nott 1" + REST);
        fault("^forcez 1" + REST);
        fault("^zforce 1" + REST);
        fault("^aforce 1" + REST);
        fault("force ^12345" + REST);
        fault("force ^00001" + REST);
        fault("force 1 + ^123456789012345678901234567890" + REST);
        fault("force 1^\t" + REST);
        fault("force 1^\r" + REST);
        fault("force 1^\u00ff" + REST);
        fault("force 1^\u0000" + REST);
        fault("force 1 ^/ 2" + REST);
        fault("force 1 ^> 2" + REST);
        fault("force 1 ^`" + REST);
        fault("force 1 ^{" + REST);
        fault("force 1 ^:" + REST);
    }

    private static void faultsOfPhrases() {
        fault("force ^stands 1 ;");
        fault("force ^or 1" + REST);
        fault("force 1 ^2" + REST);
        fault("force 1 ^weight" + REST);
        fault("force 12^weight" + REST);
        fault("force 1 ^not 2" + REST);
        fault("force 1 + ^not 2" + REST);
        fault("force - ^not 2" + REST);
        fault("force 1 < 2 ^< 3" + REST);
        fault("force 1 = 2 ^= 3" + REST);
        fault("force 1 < 2 ^= 3" + REST);
        fault("force 1 < ^not 2" + REST);
        fault("force ^+ 1" + REST);
        fault("force 1 + ^+ 1" + REST);
        fault("force 1 * ^* 1" + REST);
        fault("force ( 1 ^;");
        fault("force 1 ^) ;");
        fault("force ( ^) ;");
        fault("force ^) ;");
        fault("force ^;");
        fault("force 1 or ^;");
        fault("force 1 and ^;");
        fault("force 1 < ^;");
        fault("force 1 - ^;");
        fault("force ( 1 ) ^( 2 )" + REST);
        fault("force not ^;");
        fault("force - ^;");
        fault("force 1 or ^or 1" + REST);
        fault("force 1 and ^or 1" + REST);
        fault("force not ^or 1" + REST);
        fault("force 1 < ^or 1" + REST);
        fault("force 1 + ^or 1" + REST);
        fault("force 1 * ^or 1" + REST);
        fault("force - ^or 1" + REST);
        fault("force ( ^or 1 )" + REST);
        fault("force ( 1 ^force" + REST);
    }

    /** Tokens that may come next, a blank between any two; all others are faults where they begin. */
    private static void eachTokenBehindEach() {
        String[] tokens = ("weight pace act his cell knee force stands ahead or and not 0 9999 00000 12345 "
            + "( ) ; + - * < = weights x z # > A \t \r \u0000 \u00ff").split(" ");
        String one = "weight pace act his cell knee 0 9999 ( -";
        String phrase = one + " not";
        String sum = "or and + - *";
        nextTokens(tokens, "", "force");
        for (String begun : new String[] {"force", "force 1 ; stands", "force 1 ; stands 1 ; ahead", "force (", "force not",
            "force 1 or", "force 1 and", "force not not", "force ( (", "force ( 1 < 2 or", "force weight + 1 and"}) {
            nextTokens(tokens, begun, phrase);
        }
        for (String begun : new String[] {"force -", "force 1 +", "force 1 -", "force 1 *", "force 1 <", "force 1 =",
            "force - -", "force not -", "force ( 1 +", "force 1 < 2 *", "force 1 = 2 -"}) {
            nextTokens(tokens, begun, one);
        }
        for (String begun : new String[] {"force 1", "force knee", "force - 1", "force not 1", "force 1 * 2", "force ( 1 )",
            "force 1 < 2 or 3", "force 1 = 2 and 3", "force ( 1 < 2 )", "force 1 ; stands 1 ; ahead 1"}) {
            nextTokens(tokens, begun, sum + " < = ;");
        }
        nextTokens(tokens, "force 1 < 2", sum + " ;");
        nextTokens(tokens, "force not 1 = 2", sum + " ;");
        nextTokens(tokens, "force ( 1", sum + " < = )");
        nextTokens(tokens, "force ( 1 = 2", sum + " )");
        nextTokens(tokens, "force 1 ;", "stands");
        nextTokens(tokens, "force 1 ; stands 1 ;", "ahead");
        nextTokens(tokens, "force 1 ; stands 1 ; ahead 1 ;", "");
    }

    private static void nextTokens(String[] tokens, String begun, String may) {
        for (String token : tokens) {
            String text = begun + " " + token;
            boolean isText = begun.endsWith("ahead 1") && token.equals(";");
            boolean mayStand = (" " + may + " ").contains(" " + token + " ");
            due(text, read(text), isText ? 1 : -100 - (mayStand ? text.length() : begun.length() + 1));
        }
    }

    private static void faultsOfDepth() {
        stands("force (((((1)))))" + REST);
        fault("force (((((^(1))))))" + REST);
        stands("force -----1" + REST);
        fault("force -----^-1" + REST);
        stands("force not not not not not 1" + REST);
        fault("force not not not not not ^not 1" + REST);
        stands("force not(-(-1))" + REST);
        fault("force not(-(-^-1))" + REST);
        fault("force not(-(-^(1)))" + REST);
        fault("force (((((^not 1)))))" + REST);
        fault("force (((((^-1)))))" + REST);
        fault("force not(-((1+^-1)))" + REST);
        stands("force not(-((1-1)))" + REST);
        stands("force (((((1-1-1)))))-(((((1)))))*-----1" + REST);
        stands("force ((((-1 - -1 * -1 + -1))))" + REST);
        stands("force ((((not 1 and not 1 or not 1))))" + REST);
        stands("force not not not not -1+-1<-1 and not not not not not 1" + REST);
        fault("force not not not not -^" + "-1" + REST);
        fault("force not not not not 1+-^-1" + REST);
        stands("force not not not not not 1 or (((((1)))))" + REST);
    }

    private static void whatTextAnswers() {
        RingOfStraw x = new RingOfStraw();
        due("text() of nothing", x.text(), -100);
        due("a fault", Checks.read(x, "force"), -105);
        due("count(2)", x.count(2), 1);
        due("count(4) behind a fault", x.count(4), 0);
        for (int t = 1; t <= 5; t++) {
            due("text " + t, Checks.read(x, "force " + t + REST), t);
            due("count(4) behind a text", x.count(4), 0);
        }
        due("count(2)", x.count(2), 6);
        Checks.feed(x, "force 9" + REST);
        due("a seventh text", x.text(), -4);
        due("the tape stays", x.count(4), 7 + REST.length());
        due("a seventh text", x.text(), -4);
        x.feed(1, '#', 0, 0, 0, 0);
        due("full ahead of the fault", x.text(), -4);
        x.man(0, 0);
        for (int t = 0; t <= 5; t++) {
            due("force " + t, x.force(t), Math.max(0, t - 1));
            due("asks by text " + t, x.asks(0, 0, 0, 0), t);
        }
    }

    /** The tape is empty behind a text: its bytes don't go on behind those of a shorter one. */
    private static void behindALongerText() {
        String longer = "force weight * 1234 + not knee ; stands 99 ; ahead act ; )";
        for (int size = 0; size < longer.length(); size++) {
            String shorter = longer.substring(0, size);
            RingOfStraw x = new RingOfStraw();
            due(longer, Checks.read(x, longer), -100 - longer.indexOf("not"));
            due("behind it: " + shorter, Checks.read(x, shorter), read(shorter));
        }
        for (String[] pair : new String[][] {{"force weight", "force ^weigh"}, {"force 1234", "force 123^"},
            {"force 12345", "force 1234^"}, {"force 1 or 2", "force 1 ^o"}, {"forced", "force^"}, {"zforce", "^zforc"},
            {"force 1 ; stands 1 ; ahead 1 ;", "force 1 ; stands 1 ; ahead 1 ^"}, {"##", "^#"}, {"force ;", "force ^"}}) {
            RingOfStraw x = new RingOfStraw();
            Checks.read(x, pair[0]);
            due(pair[1] + " behind " + pair[0], Checks.read(x, pair[1].replace("^", "")), -100 - pair[1].indexOf('^'));
        }
    }

    /** A text that has a fault leaves nothing behind in the next one. */
    private static void behindAFault() {
        RingOfStraw x = new RingOfStraw();
        due("a fault late", Checks.read(x, "force 5 + 6 + 7 ; stands 3 ; ahead 1 ; #"), -139);
        for (int i = 0; i < 5; i++) {
            String late = "force 1" + "+1*1".repeat(30) + " ; stands 1 ; ahead ;";
            due("a fault later", Checks.read(x, late), -100 - late.lastIndexOf(';'));
        }
        due("a text", Checks.read(x, "force 1 ; stands 0 ; ahead 0 ;"), 1);
        x.force(1);
        x.man(0, 0);
        due("asks(0)", x.asks(0, 0, 0, 0), 1);
        due("asks(1)", x.asks(1, 0, 0, 0), 0);
        due("asks(2)", x.asks(2, 0, 0, 0), 0);
    }

    /** What force says of one of weight 40, pace 10, knee 3, by act 2, the other's 1, in cell 5. */
    private static void says(String phrase, int want) {
        RingOfStraw x = Checks.ringBy("force " + phrase + REST);
        x.man(0, 4010);
        x.put(0, 2, 3);
        due(phrase, x.asks(0, 0, 21, 5), want);
    }

    private static void phrases() {
        says("weight", 40);
        says("pace", 10);
        says("act", 2);
        says("his", 1);
        says("cell", 5);
        says("knee", 3);
        says("123", 123);
        says("0012", 12);
        says("999", 999);
        says("1000", 999);
        says("-1", 0);
        says("2 + 3 * 4", 14);
        says("(2 + 3) * 4", 20);
        says("20 - 5 - 3", 12);
        says("20 - 5 + 3", 18);
        says("20 - (5 - 3)", 18);
        says("2 * 3 * 4 * 5", 120);
        says("- 2 * -3", 6);
        says("10 - - 3", 13);
        says("10 - - - 3", 7);
        says("10 * - -3", 30);
        says("weight - pace * act + his", 21);
        says("9999 * 9999 * 9999 * 9999", 999);
        says("9999 * 9999 * 21 < 0", 0);
        says("9999 * 9999 * 22 < 0", 1);
        says("9999 * 9999 * 43 = 4172 * 1000 + 747", 1);
        says("-9999 * 9999 * 22 - 9999 * 9999 * 21 + 3 * 10 < 0", 1);
        says("9999 * 9999 * 9999 * 9999 * 0 + 7", 7);
        says("(9999 * 9999 * 9999 = 9999 * (9999 * 9999)) * 5", 5);
    }

    private static void truths() {
        says("1 < 2", 1);
        says("2 < 1", 0);
        says("2 < 2", 0);
        says("-3 < -2", 1);
        says("2 = 2", 1);
        says("2 = 3", 0);
        says("1 + 1 = 2 * 1", 1);
        says("1 + 1 < 2 * 1", 0);
        says("7 or 0", 1);
        says("0 or 0", 0);
        says("0 or -5", 1);
        says("7 and 9", 1);
        says("7 and 0", 0);
        says("0 and 7", 0);
        says("-7 and 2", 1);
        says("2 and 1", 1);
        says("not 0", 1);
        says("not 7", 0);
        says("not -1", 0);
        says("not not 7", 1);
        says("7", 7);
        says("(7)", 7);
        says("1 or 1 and 0", 1);
        says("(1 or 1) and 0", 0);
        says("0 and 0 or 1", 1);
        says("0 and (0 or 1)", 0);
        says("not 1 or 1", 1);
        says("not (1 or 1)", 0);
        says("not 0 and 0", 0);
        says("not (0 and 0)", 1);
        says("not 2 < 1", 1);
        says("(not 2) < 1", 1);
        says("not 2 = 0", 1);
        says("not 1 < 2", 0);
        says("(not 1) < 2", 1);
        says("(1 < 2) + (2 = 2) * 5", 6);
        says("0 or 0 or 3", 1);
        says("1 and 2 and 3", 1);
        says("1 and 2 and 0", 0);
        says("1 < 2 and 2 < 3 or 0", 1);
        says("3 * (act = 2) + 4 * (his = 1) + (cell = 5)", 8);
    }

    private static void bounds() {
        RingOfStraw x = Checks.ringBy("force 0-weight; stands pace - 3; ahead pace - 6;");
        x.man(0, 500);
        due("force below 0", x.asks(0, 0, 0, 0), 0);
        int[] stands = {0, 0, 0, 0, 1, 2, 3, 4, 5, 5, 5};
        int[] ahead = {-2, -2, -2, -2, -2, -1, 0, 1, 2, 2, 2};
        for (int pace = 0; pace < stands.length; pace++) {
            x.put(0, 1, pace);
            due("stands by pace " + pace, x.asks(1, 0, 0, 0), stands[pace]);
            due("ahead by pace " + pace, x.asks(2, 0, 0, 0), ahead[pace]);
        }
    }

    private static void asks() {
        RingOfStraw x = Checks.ringBy("force act*100+his*10+cell; stands act+his+cell; ahead act-his+cell*0;");
        x.man(55, 0);
        for (int act = 0; act < 4; act++) {
            for (int his = 0; his < 4; his++) {
                due("force", x.asks(0, 0, 10 * act + his, 8), Math.min(999, 100 * act + 10 * his + 8));
                due("stands", x.asks(1, 0, 10 * act + his, 0), Math.min(5, act + his));
                due("ahead", x.asks(2, 0, 10 * act + his, 0), Math.max(-2, Math.min(2, act - his)));
            }
        }
        due("stands by cell", x.asks(1, 0, 0, 4), 4);
        for (int part = 0; part < 3; part++) {
            due("no wrestler", x.asks(part, 1, 0, 0), -1000);
            due("no wrestler", x.asks(part, -1, 0, 0), -1000);
            due("acts 4", x.asks(part, 0, 4, 0), -1000);
            due("acts 40", x.asks(part, 0, 40, 0), -1000);
            due("acts 34", x.asks(part, 0, 34, 0), -1000);
            due("acts -1", x.asks(part, 0, -1, 0), -1000);
            due("acts -10", x.asks(part, 0, -10, 0), -1000);
            due("cell 9", x.asks(part, 0, 0, 9), -1000);
            due("cell -1", x.asks(part, 0, 0, -1), -1000);
        }
        due("part 3", x.asks(3, 0, 0, 0), -1000);
        due("part -1", x.asks(-1, 0, 0, 0), -1000);
        due("acts far out", x.asks(0, 0, Integer.MAX_VALUE, 0), -1000);
        due("acts far out", x.asks(0, 0, Integer.MIN_VALUE, 0), -1000);
    }

    /** What is asked is what the text says of a wrestler, whatever his kind makes of it. */
    private static void asksOfKinds() {
        RingOfStraw x = new RingOfStraw();
        for (int kind = 0; kind < 6; kind++) {
            x.man(10 * kind + 9, 2005);
            due("force of kind " + kind, x.asks(0, kind, 20, 4), 30);
            due("stands of kind " + kind, x.asks(1, kind, 20, 4), 2);
            due("ahead of kind " + kind, x.asks(2, kind, 20, 4), 0);
        }
    }

    public static void main(String[] args) {
        texts();
        faults();
        faultsOfTokens();
        faultsOfPhrases();
        eachTokenBehindEach();
        faultsOfDepth();
        whatTextAnswers();
        behindALongerText();
        behindAFault();
        phrases();
        truths();
        bounds();
        asks();
        asksOfKinds();
        Checks.end();
    }
}
