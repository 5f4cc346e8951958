/** The first of the terms: wrestlers, kinds, texts. */
final class EdgesOfTerms {
    private static final int TERMS = Edge.TERMS;
    private static final String REST = " ; stands 0 ; ahead 0 ;";

    private EdgesOfTerms() {
    }

    private static void of(String... words) {
        Edge.of(TERMS, words);
    }

    private static void due(String call, long got, long want) {
        Edge.due(call, got, want);
    }

    static void all() {
        sixWrestlers();
        kindsAndMore();
        weightAndPace();
        knees();
        winsAndLosses();
        days();
        actsAndPlans();
        wrestler();
        pusher();
        holder();
        bull();
        tree();
        sly();
        asAbove();
        tape();
        tokens();
        grammar();
        phrases();
        numbers();
        truths();
        faultsOfPlaces();
        faultsOfTokens();
        faultsOfDepth();
        sixTexts();
        theLaw();
        bounds();
        names();
        namesOfStandsAndAhead();
    }

    // ---- wrestlers

    private static void sixWrestlers() {
        of("WRESTLERS are numbered from 0 on, 6 at most: ");
        RingOfStraw x = new RingOfStraw();
        for (int m = 0; m < 6; m++) {
            due("man", x.man(0, m), m);
        }
        due("a seventh", x.man(0, 6), -4);
        due("wrestlers", x.count(0), 6);
        due("the last one's pace", x.told(5, 1), 5);
        due("one behind the last", x.told(6, 1), -5);
        due("one ahead of the first", x.told(-1, 1), -5);
    }

    private static void kindsAndMore() {
        of("of a KIND, with MORE (0 .. 9); ");
        for (int kind = 0; kind < 6; kind++) {
            RingOfStraw x = new RingOfStraw();
            due("MORE 0", x.man(10 * kind, 0), 0);
            due("MORE 9", x.man(10 * kind + 9, 0), 1);
            Rings.man(x, 0, 0, 0, 0, 0, 0, kind, 0);
            Rings.man(x, 1, 0, 0, 0, 0, 0, kind, 9);
        }
        due("MORE -1 of KIND 0", new RingOfStraw().man(-1, 0), -2);
        due("KIND 6", new RingOfStraw().man(60, 0), -2);
    }

    private static void weightAndPace() {
        of("WEIGHT, PACE (0 .. 99 each), ");
        RingOfStraw x = new RingOfStraw();
        int[][] edges = {{0, 0, 0}, {99, 0, 99}, {100, 1, 0}, {9900, 99, 0}, {9999, 99, 99}};
        for (int m = 0; m < edges.length; m++) {
            due("man", x.man(0, edges[m][0]), m);
            Rings.man(x, m, edges[m][1], edges[m][2]);
        }
        due("WEIGHT 100", x.man(0, 10000), -2);
        due("below 0", x.man(0, -1), -2);
        for (int what = 0; what < 2; what++) {
            due("put 99", x.put(0, what, 99), 0);
            due("put 100", x.put(0, what, 100), -7);
            due("put -1", x.put(0, what, -1), -7);
            due("put 0", x.put(0, what, 0), 99);
        }
    }

    private static void knees() {
        of("KNEE (0 .. 9; 0 as one comes), ");
        RingOfStraw x = Rings.by("weight", 30, 0);
        Rings.man(x, 1, 0, 0, 0);
        due("put 10", x.put(1, 2, 10), -7);
        due("put -1", x.put(1, 2, -1), -7);
        due("put 9", x.put(1, 2, 9), 0);
        due("fight", x.fight(0, 1, 0, 0), 0);
        due("a knee that is worst", x.told(1, 2), 9);
        x.put(1, 2, 8);
        due("fight", x.fight(0, 1, 0, 0), 0);
        due("a knee that was bad", x.told(1, 2), 9);
        x.man(0, 0);
        due("as one comes", x.told(2, 2), 0);
    }

    private static void winsAndLosses() {
        of("WINS, LOSSES (0 .. 999; 0). ");
        RingOfStraw x = Rings.by("weight", 30, 0);
        Rings.knee(x, 0, 0, 0, 0);
        Rings.knee(x, 1, 0, 0, 0);
        Checks.sheet(x, 0, 0, 0);
        for (int i = 0; i < 110; i++) {
            x.meet(0, 9);
        }
        x.meet(0, 8);
        Rings.knee(x, 0, 0, 998, 0);
        Rings.knee(x, 1, 9, 0, 998);
        for (int i = 0; i < 3; i++) {
            due("fight", x.fight(0, 1, 0, 0), 0);
            Rings.knee(x, 0, 0, 999, 0);
            Rings.knee(x, 1, 9, 0, 999);
        }
        // The other way round each count has its own bound.
        x.put(0, 0, 0);
        x.put(1, 0, 30);
        due("fight", x.fight(0, 1, 0, 0), 1);
        Rings.knee(x, 0, 1, 999, 1);
        Rings.knee(x, 1, 9, 1, 999);
    }

    private static void days() {
        of("DAYS (0 .. 999; 0). ");
        RingOfStraw x = new RingOfStraw();
        due("at first", x.count(1), 0);
        x.sheet(0, 2, 0);
        for (int day = 9; day <= 999; day += 9) {
            x.meet(0, 9);
        }
        due("days", x.count(1), 999);
        due("one more", x.meet(0, 1), -4);
        due("days", x.count(1), 999);
    }

    private static void actsAndPlans() {
        of("ACTS: 0 push, 1 hold, 2 aside, 3 pull. ");
        RingOfStraw x = Rings.by("10");
        x.man(11, 0);
        x.man(20, 0);
        x.man(0, 0);
        // A pusher pushes 13, a holder holds 15 and forces 5 else; aside is nothing, but 20 against a push.
        int[] pusher = {5, 4, 3, 4};
        int[] holder = {3, 5, 3, 3};
        for (int act = 0; act < 4; act++) {
            due("the pusher's act " + act, x.bout(2, Rings.ALWAYS[act], Rings.L, 11), pusher[act]);
            due("the holder's act " + act, x.bout(12, Rings.ALWAYS[act], Rings.L, 11), holder[act]);
        }
        due("aside of a push", x.bout(20, Rings.A, Rings.P, 11), 5);
        of("bits 2 t and 2 t + 1 are the ACT in second t (0 .. 8). ");
        RingOfStraw y = Rings.by("act", 0, 0);
        for (int t = 0; t < 9; t++) {
            for (int act = 1; act < 4; act++) {
                for (int second = 0; second < 10; second++) {
                    due("act " + act + " in second " + t, y.bout(1, act << 2 * t, 0, 10 + second), second <= t ? 4 : 5);
                }
            }
        }
        of("A PLAN (0 .. 262143): ");
        due("the greatest plan", y.bout(1, 262143, 262143, 0), -1);
        due("against the least one", y.bout(1, 262143, 0, 0), 0);
        due("a plan above", y.bout(1, 262144, 0, 0), -7);
        due("a plan below", y.bout(1, 0, -1, 0), -7);
    }

    // ---- kinds

    private static void wrestler() {
        of("KINDS: how much one FORCES, the text saying so much, by one's ACT and the other one's; ",
            "how many seconds one STANDS at the straw, the text saying so many; how far one STARTS ahead, the text saying so far. ");
        Rings.forces(0, 99, Rings.PUSH, Rings.PUSH, 99);
        Rings.forces(0, 0, Rings.PUSH, Rings.PUSH, 0);
        Rings.stands(0, 4, 4);
        Rings.starts(0, -2, -2);
        of("0 WRESTLER: aside: twice that, if the other one pushes, else 0; else that; that; that. ");
        Rings.forces(9, 40, Rings.ASIDE, Rings.PUSH, 80);
        Rings.forces(9, 40, Rings.ASIDE, Rings.HOLD, 0);
        Rings.forces(9, 40, Rings.ASIDE, Rings.ASIDE, 0);
        Rings.forces(9, 40, Rings.ASIDE, Rings.PULL, 0);
        for (int act : new int[] {Rings.PUSH, Rings.HOLD, Rings.PULL}) {
            for (int his = 0; his < 4; his++) {
                Rings.forces(9, 40, act, his, 40);
            }
        }
        Rings.forces(9, 0, Rings.ASIDE, Rings.PUSH, 0);
        Rings.stands(9, 0, 0);
        Rings.stands(9, 5, 5);
        for (int says = -2; says <= 2; says++) {
            Rings.starts(9, says, says);
        }
    }

    private static void pusher() {
        of("1 PUSHER (a WRESTLER): FORCES 3 times MORE more, if one pushes. ");
        Rings.forces(10, 40, Rings.PUSH, Rings.PUSH, 40);
        Rings.forces(11, 40, Rings.PUSH, Rings.HOLD, 43);
        Rings.forces(19, 40, Rings.PUSH, Rings.ASIDE, 67);
        Rings.forces(19, 0, Rings.PUSH, Rings.PULL, 27);
        Rings.forces(19, 40, Rings.HOLD, Rings.PUSH, 40);
        Rings.forces(19, 40, Rings.PULL, Rings.ASIDE, 40);
        Rings.forces(19, 40, Rings.ASIDE, Rings.PUSH, 80);
        Rings.forces(19, 40, Rings.ASIDE, Rings.PULL, 0);
    }

    private static void holder() {
        of("2 HOLDER (a WRESTLER): FORCES 5 more, if one holds, else half (cut) of a WRESTLER's; STANDS 1 more. ");
        Rings.forces(29, 0, Rings.HOLD, Rings.PUSH, 5);
        Rings.forces(29, 40, Rings.HOLD, Rings.HOLD, 45);
        Rings.forces(29, 40, Rings.HOLD, Rings.ASIDE, 45);
        Rings.forces(29, 0, Rings.PUSH, Rings.PULL, 0);
        Rings.forces(29, 1, Rings.PUSH, Rings.PUSH, 0);
        Rings.forces(29, 41, Rings.PULL, Rings.ASIDE, 20);
        Rings.forces(29, 41, Rings.ASIDE, Rings.PUSH, 41);
        Rings.forces(29, 41, Rings.ASIDE, Rings.HOLD, 0);
        Rings.stands(29, 0, 1);
        Rings.stands(29, 5, 6);
    }

    private static void bull() {
        of("3 BULL (a PUSHER): FORCES 0, if the other one steps aside, else as a PUSHER; STARTS 1 further. ");
        for (int act = 0; act < 4; act++) {
            Rings.forces(39, 40, act, Rings.ASIDE, 0);
        }
        Rings.forces(30, 40, Rings.PUSH, Rings.PUSH, 40);
        Rings.forces(39, 40, Rings.PUSH, Rings.PULL, 67);
        Rings.forces(39, 40, Rings.HOLD, Rings.PUSH, 40);
        Rings.forces(39, 20, Rings.ASIDE, Rings.PUSH, 40);
        for (int says = -2; says <= 2; says++) {
            Rings.starts(39, says, says + 1);
        }
    }

    private static void tree() {
        of("4 TREE (a HOLDER): STANDS MORE more; STARTS as the text says, if it says less than 0, else 0. ");
        Rings.stands(40, 0, 1);
        Rings.stands(41, 0, 2);
        Rings.stands(47, 0, 8);
        Rings.stands(48, 0, 9);
        Rings.stands(42, 5, 8);
        Rings.stands(43, 5, 9);
        for (int says = -2; says <= 2; says++) {
            Rings.starts(49, says, Math.min(says, 0));
        }
    }

    private static void sly() {
        of("5 SLY (a WRESTLER): FORCES half (cut), if both do the same, else MORE more. ");
        Rings.forces(59, 41, Rings.PUSH, Rings.PUSH, 20);
        Rings.forces(59, 1, Rings.HOLD, Rings.HOLD, 0);
        Rings.forces(59, 41, Rings.PULL, Rings.PULL, 20);
        Rings.forces(59, 41, Rings.ASIDE, Rings.ASIDE, 0);
        Rings.forces(59, 40, Rings.PUSH, Rings.ASIDE, 49);
        Rings.forces(59, 20, Rings.ASIDE, Rings.PUSH, 49);
        Rings.forces(59, 40, Rings.ASIDE, Rings.PULL, 9);
        Rings.forces(50, 40, Rings.HOLD, Rings.PUSH, 40);
        Rings.forces(50, 40, Rings.ASIDE, Rings.HOLD, 0);
    }

    private static void asAbove() {
        of("(Whatever isn't told is as of the KIND above.) ");
        Rings.stands(19, 2, 2);
        Rings.stands(39, 2, 2);
        Rings.stands(59, 2, 2);
        Rings.starts(19, 2, 2);
        Rings.starts(29, 2, 2);
        Rings.starts(59, -2, -2);
        Rings.forces(49, 41, Rings.HOLD, Rings.PUSH, 46);
        Rings.forces(49, 41, Rings.PUSH, Rings.PUSH, 20);
        Rings.forces(49, 41, Rings.ASIDE, Rings.PUSH, 41);
    }

    // ---- texts

    private static void tape() {
        of("A TEXT is read from THE TAPE (160 bytes at most). ");
        String text = "force 7 ; stands 1 ; ahead 1 ;";
        RingOfStraw x = new RingOfStraw();
        Checks.feed(x, " ".repeat(160 - text.length()) + text);
        due("bytes", x.count(4), 160);
        due("one more", x.feed(1, 32, 0, 0, 0, 0), -4);
        due("text()", x.text(), 1);
        String longest = "force 10" + "+1".repeat(67) + ";stands 1;ahead 1;";
        due("a text of 160 bytes", Checks.read(x, longest), 2);
        x.force(2);
        x.man(0, 0);
        due("what it says", x.asks(0, 0, 0, 0), 77);
        String longer = "force 100" + "+1".repeat(67) + ";stands 1;ahead 1;";
        Checks.feed(x, longer.substring(0, 160));
        due("the 161st byte", x.feed(1, longer.charAt(160), 0, 0, 0, 0), -4);
        due("a text without it", x.text(), -260);
    }

    private static void tokens() {
        of("TOKENS, each as long as can be: WORDS (as many letters a .. z as stand there), ");
        Rings.fault("^forceweight" + REST);
        Rings.faultOfE("^weightpace");
        Rings.faultOfE("^notweight");
        Rings.faultOfE("0 ^orweight");
        Rings.faultOfE("^zact");
        Rings.isText("force1or 0and 1" + REST);
        of("NUMBERS (as many digits as stand there; more than 4 are too long), ");
        Rings.isE("9999");
        Rings.isE("0000");
        Rings.faultOfE("^10000");
        Rings.faultOfE("^00000");
        Rings.faultOfE("12 ^34");
        Rings.says("012", 12);
        Rings.says("0999", 999);
        of("SIGNS ( ) ; + - * < = ; ");
        Rings.isE("(1)+2-3*4<5");
        Rings.isE("1=2");
        for (char sign : "!\"#$%&',./:>?@AZ[\\]^_`{|}~\u007f\u0080\u00ff\u0000\u0001".toCharArray()) {
            int number = sign;
            due("byte " + number, Rings.read("force 1 " + sign + " 2" + REST), -108);
        }
        of("blanks (32, 10) may stand between. ");
        Rings.isText("force 1;stands 2;ahead 1;");
        Rings.isText("force1;stands2;ahead1;");
        Rings.isText(" \n force\n\n1 \n;\nstands\n2;  ahead 1\n;\n \n");
        for (int blank : new int[] {0, 8, 9, 11, 12, 13, 31, 33, 133, 160, 255}) {
            due("byte " + blank, Rings.read("force" + (char) blank + "1" + REST), -105);
        }
        Rings.faultOfE("^wei ght");
        Rings.faultOfE("^wei\nght");
    }

    private static void grammar() {
        of("TEXT: force E ; stands E ; ahead E ; ");
        Rings.isText("force 1 ; stands 1 ; ahead 1 ;");
        Rings.fault("^stands 1 ; ahead 1 ;");
        Rings.fault("force 1 ; ^ahead 1 ; stands 1 ;");
        Rings.fault("force 1 ; stands 1 ; ^force 1 ;");
        Rings.fault("force 1 ; stands 1 ; ahead 1 ; ^force 1 ;");
        Rings.fault("force 1 ; stands 1 ; ahead 1 ; ^;");
        Rings.fault("force 1 ; stands 1 ; ahead 1 ; ^5");
        Rings.fault("force 1 ; stands 1 ; ahead 1 ; ^weight");
        Rings.fault("force 1 ; stands 1 ; ahead 1 ; ^(");
        Rings.fault("force ^; stands 1 ; ahead 1 ;");
        Rings.fault("force 1 ^stands 1 ; ahead 1 ;");
        Rings.fault("^1 ; stands 1 ; ahead 1 ;");
        of("E: AND { or AND }. ");
        Rings.isE("1");
        Rings.isE("1 or 2 or 3 or 4");
        Rings.faultOfE("^or 1");
        Rings.faultOfE("1 or ^or 1");
        Rings.fault("force 1 or ^" + REST.substring(1));
        of("AND: NOT { and NOT }. ");
        Rings.isE("1 and 2 and 3 or 4 and 5");
        Rings.isE("1 and not 2 and not not 3");
        Rings.faultOfE("^and 1");
        Rings.faultOfE("1 and ^and 1");
        Rings.faultOfE("1 and ^or 1");
        of("NOT: not NOT, or SUM, perhaps < or = and a SUM. ");
        Rings.isE("not not 1");
        Rings.isE("not 1 < 2");
        Rings.isE("1 + 1 = 2 - 1");
        Rings.faultOfE("1 < 2 ^< 3");
        Rings.faultOfE("1 = 2 ^= 3");
        Rings.faultOfE("1 < 2 ^= 3");
        Rings.faultOfE("1 < ^not 2");
        Rings.faultOfE("1 ^not 2");
        Rings.faultOfE("^< 1");
        Rings.faultOfE("1 < ^= 1");
        of("SUM: TERM { + or - TERM }. ");
        Rings.says("20 - 5 - 3", 12);
        Rings.says("20 - 5 + 3", 18);
        Rings.faultOfE("^+ 1");
        Rings.faultOfE("1 + ^+ 1");
        Rings.faultOfE("1 - ^not 1");
    }

    private static void phrases() {
        of("TERM: ONE { * ONE }. ");
        Rings.says("2 + 3 * 4 * 5", 62);
        Rings.faultOfE("^* 1");
        Rings.faultOfE("1 * ^* 1");
        Rings.faultOfE("1 * ^not 1");
        of("ONE: a NUMBER, a NAME, - ONE, ( E ). ");
        Rings.says("9 - - - 3", 6);
        Rings.says("2 * - 3 + 9", 3);
        Rings.says("(1 or 0) * (2 < 3) * 7", 7);
        Rings.says("- (2 - 9)", 7);
        Rings.faultOfE("- ^not 1");
        Rings.faultOfE("( ^)");
        Rings.faultOfE("1 ^)");
        Rings.fault("force ( 1 ^" + REST.substring(1));
        Rings.faultOfE("1 ^2");
        Rings.faultOfE("weight ^pace");
        Rings.faultOfE("(1) ^(2)");
        of("NAMES: weight pace act his cell knee. ");
        Rings.says("weight", 40);
        Rings.says("pace", 10);
        Rings.says("act", 2);
        Rings.says("his", 1);
        Rings.says("cell", 5);
        Rings.says("knee", 3);
        for (String other : new String[] {"more", "wins", "losses", "kind", "weigh", "weights", "xeight", "weixht",
            "weighx", "ight", "a", "acts", "ac", "ct", "acx", "xnee", "kneel", "hiss", "is", "celll", "ell", "ace", "pac"}) {
            Rings.faultOfE("^" + other);
        }
    }

    private static void numbers() {
        of("An E is an int (32 bits, wrapping): ");
        String least = "(2048 * 1024 * 1024)";
        Rings.says(least + " < 0", 1);
        Rings.says(least + " - 1 < 0", 0);
        Rings.says(least + " - 1", 999);
        Rings.says(least + " - 1 + 1 < 0", 1);
        Rings.says("0 - " + least + " = " + least, 1);
        Rings.says("-" + least + " = " + least, 1);
        Rings.says(least + " * 2", 0);
        Rings.says(least + " + " + least, 0);
        Rings.says(least + " * 3 < 0", 1);
        Rings.says("1024 * 1024 * 4096 + 7", 7);
        Rings.says("9999 * 9999 * 43", 999);
        Rings.says("9999 * 9999 * 43 - 4172 * 1000 * 1 < 1000", 1);
        // Only what a text says at last has bounds.
        Rings.says("2000 - 1500", 500);
        Rings.says("5 - 9 + 7", 3);
    }

    private static void truths() {
        of("of or, and, not, <, = 1 or 0 (what is not 0 is true). ");
        Rings.says("7 or 0", 1);
        Rings.says("0 or -1", 1);
        Rings.says("0 or 0", 0);
        Rings.says("7 and -7", 1);
        Rings.says("2 and 1", 1);
        Rings.says("7 and 0", 0);
        Rings.says("not 0", 1);
        Rings.says("not 2", 0);
        Rings.says("not -1", 0);
        Rings.says("1 < 2", 1);
        Rings.says("2 < 2", 0);
        Rings.says("-1 < 0", 1);
        Rings.says("2 = 2", 1);
        Rings.says("2 = 1", 0);
        Rings.says("0 = 0", 1);
        Rings.says("7", 7);
        Rings.says("(7 and 7) * 9 + (0 or 8) * 90", 99);
    }

    // ---- faults

    private static void faultsOfPlaces() {
        of("FAULT: the place of the first byte of the first TOKEN that can't stand there ");
        Rings.fault("^) force 1" + REST);
        Rings.fault(" \n ^) force 1" + REST);
        Rings.faultOfE("1   ^stands");
        for (String key : new String[] {"force", "stands", "ahead", "or", "and"}) {
            Rings.faultOfE("^" + key);
            Rings.faultOfE("1 + ^" + key);
            Rings.faultOfE("(^" + key + ")");
        }
        Rings.faultOfE("1 ^2 # 12345 nobody");
        Rings.faultOfE("^) # 12345 nobody");
        String last = "force 1 ; stands 2 ; ahead 1 ;" + " ".repeat(129);
        due("a token at the last place", Rings.read(last + ")"), -259);
        of("(the text's size, if it ends too early), ");
        Rings.fault("^");
        Rings.fault(" \n ^");
        Rings.fault("force^");
        Rings.fault("force  ^");
        Rings.fault("force 1 ; stands 1 ; ahead 1^");
        Rings.fault("force 1 ; stands 1 ; ahead 1 \n ^");
        Rings.fault("force (^");
        Rings.fault("force 1 +^");
        Rings.fault("force 1 ;^");
        due("160 blanks", Rings.read(" ".repeat(160)), -260);
    }

    private static void faultsOfTokens() {
        of("also of a byte that begins none, ");
        Rings.fault("^#");
        Rings.fault("force 1 ; stands 1 ; ahead 1 ; ^#");
        Rings.faultOfE("1 ^# 2");
        Rings.faultOfE("1^A");
        of("of a WORD that is neither KEY nor NAME, ");
        Rings.fault("^nobody");
        Rings.fault("^forced 1" + REST);
        Rings.fault("^forc 1" + REST);
        Rings.fault("^xorce 1" + REST);
        Rings.fault("^forcx 1" + REST);
        Rings.faultOfE("^nobody");
        Rings.faultOfE("1 ^nobody");
        Rings.faultOfE("not ^nobody 1");
        Rings.faultOfE("- ^nobody 1");
        Rings.faultOfE("((1) ^nobody");
        Rings.faultOfE("1 * ^nobody");
        Rings.faultOfE("1 ^ors 1");
        Rings.faultOfE("1 ^xr 1");
        Rings.faultOfE("1 ^o 1");
        Rings.faultOfE("1 ^an 1");
        Rings.faultOfE("1 ^xnd 1");
        Rings.faultOfE("^no 1");
        Rings.faultOfE("^xot 1");
        Rings.fault("force 1 ; stands 1 ; ahead 1 ; ^nobody");
        of("a NUMBER that is too long, ");
        Rings.fault("^12345");
        Rings.faultOfE("^12345");
        Rings.faultOfE("1 ^12345");
        Rings.faultOfE("1 + ^00000000000000000001");
        Rings.faultOfE("^4294967297");
        Rings.fault("force 1 ; stands 1 ; ahead 1 ; ^12345");
    }

    private static void faultsOfDepth() {
        of("a ( , a not, a - ahead of a ONE while 5 of these are open ");
        Rings.isE("(((((1)))))");
        Rings.faultOfE("(((((^(1))))))");
        Rings.isE("not not not not not 1");
        Rings.faultOfE("not not not not not ^not 1");
        Rings.isE("-----1");
        Rings.faultOfE("-----^-1");
        Rings.faultOfE("(((((^not 1)))))");
        Rings.faultOfE("(((((^-1)))))");
        Rings.faultOfE("not not not not not ^(1)");
        Rings.faultOfE("not not not not not ^-1");
        Rings.faultOfE("-----^(1)");
        Rings.faultOfE("not (- (- ^(1)))");
        Rings.faultOfE("not (- (- ^-1))");
        Rings.isE("(((((1 - 1)))))");
        Rings.isE("-----1 - 1");
        of("(a ( till its ) , not and - till what they belong to ends). ");
        Rings.isE("(((((1))))) + (((((1)))))");
        Rings.isE("((((1) + (1) * (1))))");
        Rings.isE("(((((1) + 1) + ((1)))))");
        Rings.faultOfE("(((((1) + 1) + ((^(1))))))");
        Rings.isE("-----1 * -----1");
        Rings.isE("-----1 - -----1");
        Rings.isE("not not not not not 1 and (((((1)))))");
        Rings.isE("not not not not -1 < -1");
        Rings.faultOfE("not not not not not 1 < ^-1");
        Rings.faultOfE("not not not not not 1 + ^(1)");
        Rings.faultOfE("not not not not -1 + -^-1");
        Rings.isE("-(((1 + -1)))");
        Rings.faultOfE("-((((1 + ^-1))))");
        Rings.isE("-((((1)))) + -1 * -((((1))))");
        Rings.isE("(not (not 1 or not 1) and -(1))");
    }

    // ---- what texts say

    private static void sixTexts() {
        of("TEXTS are numbered from 0 on, 6 at most; ");
        RingOfStraw x = new RingOfStraw();
        for (int t = 1; t < 6; t++) {
            due("text " + t, Checks.read(x, "force 10 *" + t + REST), t);
        }
        due("a seventh", Checks.read(x, "force 1" + REST), -4);
        due("texts", x.count(2), 6);
        x.man(0, 5);
        for (int t = 1; t < 6; t++) {
            due("force " + t, x.force(t), t - 1);
            due("asks by " + t, x.asks(0, 0, 0, 0), 10 * t);
        }
        due("force 6", x.force(6), -2);
    }

    private static void theLaw() {
        of("TEXT 0, at first, and THE LAW: force weight + pace * act ; stands 2 ; ahead 0 ; ");
        RingOfStraw x = new RingOfStraw();
        due("texts", x.count(2), 1);
        due("the law", x.count(3), 0);
        x.man(0, 4010);
        for (int act = 0; act < 4; act++) {
            due("force by act " + act, x.asks(0, 0, 10 * act + 3 - act, act), 40 + 10 * act);
            due("stands", x.asks(1, 0, 10 * act, act), 2);
            due("ahead", x.asks(2, 0, 10 * act, act), 0);
        }
    }

    private static void bounds() {
        of("(force 0 .. 999, stands 0 .. 5, ahead -2 .. 2, else the bound), ");
        RingOfStraw x = Checks.ringBy("force weight * 100 + pace - 1 ; stands pace - 1 ; ahead pace - 4 ;");
        x.man(0, 0);
        int[] stands = {0, 0, 1, 2, 3, 4, 5, 5};
        int[] ahead = {-2, -2, -2, -1, 0, 1, 2, 2};
        for (int pace = 0; pace < 8; pace++) {
            x.put(0, 1, pace);
            due("stands " + (pace - 1), x.asks(1, 0, 0, 0), stands[pace]);
            due("ahead " + (pace - 4), x.asks(2, 0, 0, 0), ahead[pace]);
        }
        x.put(0, 1, 0);
        due("force -1", x.asks(0, 0, 0, 0), 0);
        x.put(0, 1, 1);
        due("force 0", x.asks(0, 0, 0, 0), 0);
        x.put(0, 0, 10);
        x.put(0, 1, 0);
        due("force 999", x.asks(0, 0, 0, 0), 999);
        x.put(0, 1, 1);
        due("force 1000", x.asks(0, 0, 0, 0), 999);
        due("the bounds in a bout", Rings.by("9999", 0, 0).bout(1, 0, 0, 19), 4);
    }

    private static void names() {
        of("of a WRESTLER: weight: WEIGHT; pace: PACE; act: one's ACT; his: the other one's; ");
        RingOfStraw x = Rings.by("weight", 2, 1);
        Rings.cells(x, 1, "P", "P", 4, 5, 6, 7, 8);
        RingOfStraw pace = Rings.by("pace", 0, 0);
        pace.put(1, 1, 1);
        Rings.cells(pace, 1, "P", "P", 4, 3, 2, 1, 0);
        RingOfStraw act = Rings.by("act", 0, 0);
        Rings.cells(act, 1, "H", "P", 4, 5, 6, 7, 8);
        RingOfStraw his = Rings.by("his", 0, 0);
        Rings.cells(his, 1, "H", "P", 4, 3, 2, 1, 0);
        of("cell: where they are, from one's own straw on; knee: KNEE. ");
        // 3 * 5 against 5 * 5 in the cells of each.
        RingOfStraw cell = Rings.of("force cell * 5 ; stands 0 ; ahead weight - 1 ;", 0, 1);
        Rings.cells(cell, 1, "P", "P", 3, 2, 1, 0);
        RingOfStraw straws = Rings.of("force cell * 5 ; stands 0 ; ahead (weight - 1) * 2 ;", 0, 2);
        Rings.cells(straws, 1, "P", "P", 1, 0);
        Rings.cells(straws, 10, "P", "P", 7, 8);
        RingOfStraw knee = Rings.by("knee * 2", 0, 0);
        knee.put(0, 2, 1);
        Rings.cells(knee, 1, "P", "P", 4, 5, 6, 7, 8);
    }

    private static void namesOfStandsAndAhead() {
        of("(Of stands act, his, cell 0; of ahead act, his 0, cell 4; in asks() as told.)");
        RingOfStraw x = Rings.of("force weight ; stands act + his + cell ; ahead 0 ;", 9, 0);
        Rings.cells(x, 1, "L", "L", 4, 5, 6, 7, 8);
        due("stands as told", x.asks(1, 1, 32, 0), 5);
        due("stands as told", x.asks(1, 1, 11, 1), 3);
        RingOfStraw y = Rings.of("force 0 ; stands 0 ; ahead (weight = 9) * (act + his + cell - 3) ;", 9, 0);
        due("the start", y.bout(1, Rings.L, Rings.L, 10), 5);
        due("the start", y.bout(10, Rings.L, Rings.L, 10), 3);
        due("ahead as told", y.asks(2, 0, 0, 2), -1);
        due("ahead as told", y.asks(2, 0, 10, 3), 1);
        due("ahead as told", y.asks(2, 0, 1, 4), 2);
    }
}
