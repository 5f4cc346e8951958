/** Promises 1 to 9: what there is, the tape, texts, the law, wrestlers. */
final class EdgesOfWrestlers {
    private static final String REST = " ; stands 0 ; ahead 0 ;";

    private EdgesOfWrestlers() {
    }

    private static void due(String call, long got, long want) {
        Edge.due(call, got, want);
    }

    static void all() {
        newObject();
        manyCalls();
        count();
        feed();
        feedRefused();
        text();
        textFull();
        force();
        asks();
        asksNone();
        man();
        manRefused();
        put();
        told();
    }

    // ---- promise 1

    private static void newObject() {
        Edge.of(1, "No WRESTLERS.");
        RingOfStraw x = new RingOfStraw();
        int[] counts = {0, 0, 1, 0, 0};
        for (int what = 0; what < 5; what++) {
            due("count(" + what + ")", x.count(what), counts[what]);
        }
        for (int m = 0; m < 6; m++) {
            due("told(" + m + ", 0)", x.told(m, 0), -5);
            due("taken(" + m + ", 0)", x.taken(m, 0), -11);
        }
        due("no image", x.back(), -3);
        due("an empty tape", x.text(), -100);
        RingOfStraw other = new RingOfStraw();
        x.man(0, 0);
        x.force(0);
        x.feed(1, 32, 0, 0, 0, 0);
        due("another object has its own", other.count(0) + other.count(4), 0);
    }

    private static void manyCalls() {
        Edge.of(Edge.WHAT_IT_IS, "An object is used for at most 512 calls after it has been made");
        RingOfStraw x = new RingOfStraw();
        x.man(0, 3000);
        x.man(0, 1000);
        for (int i = 0; i < 255; i++) {
            due("fight", x.fight(0, 1, 0, 0), 0);
            due("sure, by a hold against aside", x.sure(10, 1, 1), 1);
        }
        Edge.of(Edge.WHAT_IT_IS, "512 calls");
        RingOfStraw y = new RingOfStraw();
        y.man(0, 3000);
        y.man(0, 1000);
        for (int i = 0; i < 509; i++) {
            y.fight(0, 1, 0, 0);
        }
        due("the 512th call", y.told(0, 3), 509);
    }

    // ---- promise 2

    private static void count() {
        Edge.of(2, "0 WRESTLERS, 1 DAYS, 2 TEXTS, 3 THE LAW, 4 bytes of THE TAPE. ");
        RingOfStraw x = new RingOfStraw();
        for (int m = 1; m <= 6; m++) {
            x.man(0, 0);
            due("count(0)", x.count(0), m);
        }
        x.man(0, 0);
        due("count(0) of six", x.count(0), 6);
        x.sheet(0, 2, 6);
        x.meet(0, 1);
        x.meet(0, 8);
        due("count(1)", x.count(1), 9);
        for (int t = 2; t <= 6; t++) {
            Checks.read(x, "force 1" + REST);
            due("count(2)", x.count(2), t);
            due("count(3)", x.count(3), Math.max(0, t - 2));
            x.force(t - 1);
            due("count(3)", x.count(3), t - 1);
        }
        for (int size = 5; size <= 160; size += 5) {
            x.feed(5, 32, 32, 32, 32, 32);
            due("count(4)", x.count(4), size);
        }
        Edge.of(2, "BAD.");
        due("count(-1)", x.count(-1), -2);
        due("count(5)", x.count(5), -2);
        for (int what : Rings.FAR) {
            due("count(" + what + ")", x.count(what), -2);
        }
    }

    // ---- promise 3

    private static void feed() {
        Edge.of(3, "The first n (1 .. 5) of five bytes (0 .. 255 each) come behind THE TAPE's, one by one: how many it has. ");
        RingOfStraw x = new RingOfStraw();
        int size = 0;
        for (int n = 1; n <= 5; n++) {
            size += n;
            due("feed " + n, x.feed(n, 0, 255, 0, 255, 0), size);
            due("count(4)", x.count(4), size);
        }
        due("text()", x.text(), -100);
        // Each of the five in its own place, and those behind the first n nowhere.
        for (int n = 1; n <= 5; n++) {
            RingOfStraw y = new RingOfStraw();
            y.feed(n, 'f', 'o', 'r', 'c', 'e');
            y.feed(5, 'f', 'o', 'r', 'c', 'e');
            due("a word fed by " + n, y.text(), -100);
            y.feed(5, 'f', 'o', 'r', 'c', 'e');
            y.feed(n, ' ', ' ', ' ', ' ', ' ');
            y.feed(n, '7', ' ', ' ', ' ', ' ');
            y.feed(1, ')', ' ', ' ', ' ', ' ');
            due("a sign fed behind " + n, y.text(), -105 - 2 * n);
        }
    }

    private static void feedRefused() {
        Edge.of(3, "BAD: n, any of the five; ");
        RingOfStraw x = new RingOfStraw();
        due("n 0", x.feed(0, 1, 1, 1, 1, 1), -2);
        due("n 6", x.feed(6, 1, 1, 1, 1, 1), -2);
        for (int n : Rings.FAR) {
            due("n " + n, x.feed(n, 1, 1, 1, 1, 1), -2);
        }
        for (int bad : new int[] {-1, 256, 257, -256, 65536, Integer.MIN_VALUE, Integer.MAX_VALUE}) {
            for (int n = 1; n <= 5; n += 4) {
                due(bad + " first of " + n, x.feed(n, bad, 1, 1, 1, 1), -2);
                due(bad + " second of " + n, x.feed(n, 1, bad, 1, 1, 1), -2);
                due(bad + " third of " + n, x.feed(n, 1, 1, bad, 1, 1), -2);
                due(bad + " fourth of " + n, x.feed(n, 1, 1, 1, bad, 1), -2);
                due(bad + " fifth of " + n, x.feed(n, 1, 1, 1, 1, bad), -2);
            }
        }
        due("none came", x.count(4), 0);
        Edge.of(3, "FULL: they have not all room (none comes).");
        for (int n = 1; n <= 5; n++) {
            RingOfStraw y = new RingOfStraw();
            for (int i = 0; i < 31; i++) {
                y.feed(5, 32, 32, 32, 32, 32);
            }
            for (int size = 155; size + n <= 160; size += n) {
                due(n + " have room", y.feed(n, 32, 32, 32, 32, 32), size + n);
            }
            int size = y.count(4);
            due(n + " haven't", y.feed(n, 32, 32, 32, 32, 32), -4);
            due("none came", y.count(4), size);
            due("BAD ahead of FULL", y.feed(n, 32, 32, 32, 32, 256), -2);
            due("the others have", size == 160 ? 160 : y.feed(160 - size, 32, 32, 32, 32, 32), 160);
            due("one more", y.feed(1, 32, 32, 32, 32, 32), -4);
            due("blanks", y.text(), -260);
            due("there is room once more", y.feed(n, 32, 32, 32, 32, 32), n);
        }
        RingOfStraw z = new RingOfStraw();
        for (int i = 0; i < 39; i++) {
            z.feed(4, 32, 32, 32, 32, 32);
        }
        due("of 156 on five haven't", z.feed(5, 32, 32, 32, 32, 32), -4);
        due("of 156 on four have", z.feed(4, 32, 32, 32, 32, 32), 160);
    }

    // ---- promise 4

    private static void text() {
        Edge.of(4, "THE TAPE, which is empty then (by a FAULT, too), is a TEXT: its number; ");
        RingOfStraw x = new RingOfStraw();
        due("a text", Checks.read(x, "force 1" + REST), 1);
        due("empty then", x.count(4), 0);
        due("an empty tape", x.text(), -100);
        due("a fault", Checks.read(x, "force 1 # " + REST), -108);
        due("empty then", x.count(4), 0);
        due("a fault", Checks.read(x, "force weight 1234"), -113);
        due("no letter of that one", Checks.read(x, "force weigh"), -106);
        due("a fault", Checks.read(x, "force 1234"), -110);
        due("no digit of that one", Checks.read(x, "force 123"), -109);
        due("a text", Checks.read(x, "force 2" + REST), 2);
        due("empty then", x.count(4), 0);
        due("texts", x.count(2), 3);
        due("the law stays", x.count(3), 0);
        String late = "force 1" + "+1*1".repeat(31) + " ; stands 1 ; ahead ;";
        for (int i = 0; i < 9; i++) {
            due("a late fault", Checks.read(x, late), -100 - late.length() + 1);
        }
        due("a text behind faults", Checks.read(x, "force 8 ; stands 4 ; ahead 0 - 1 ;"), 3);
        x.force(3);
        x.man(0, 0);
        due("its force", x.asks(0, 0, 0, 0), 8);
        due("its stands", x.asks(1, 0, 0, 0), 4);
        due("its ahead", x.asks(2, 0, 0, 0), -1);
        Edge.of(4, "-100 less the place of its FAULT. ");
        due("place 0", Checks.read(x, "#"), -100);
        due("place 1", Checks.read(x, " #"), -101);
        due("place 159", Checks.read(x, " ".repeat(159) + "#"), -259);
        due("place 160", Checks.read(x, " ".repeat(160)), -260);
        due("texts", x.count(2), 4);
        due("the next number", Checks.read(x, "force 3" + REST), 4);
    }

    private static void textFull() {
        Edge.of(4, "FULL (ahead of the FAULT; then THE TAPE stays).");
        RingOfStraw x = new RingOfStraw();
        for (int t = 1; t <= 5; t++) {
            due("text " + t, Checks.read(x, "force 1" + REST), t);
        }
        due("of an empty tape", x.text(), -4);
        due("a seventh", Checks.read(x, "force 1" + REST), -4);
        due("it stays", x.count(4), 7 + REST.length());
        due("once more", x.text(), -4);
        x.feed(1, '#', 0, 0, 0, 0);
        due("ahead of the fault", x.text(), -4);
        due("it stays", x.count(4), 8 + REST.length());
        due("texts", x.count(2), 6);
        due("what is fed comes behind it", x.feed(2, 32, 32, 32, 32, 32), 10 + REST.length());
    }

    // ---- promise 5

    private static void force() {
        Edge.of(5, "A TEXT is THE LAW: which was. ");
        RingOfStraw x = Rings.by("1", 0);
        Checks.read(x, "force 2" + REST);
        due("force(2)", x.force(2), 1);
        due("by text 2", x.asks(0, 0, 0, 0), 2);
        due("force(2)", x.force(2), 2);
        due("force(0)", x.force(0), 2);
        due("by text 0", x.asks(1, 0, 0, 0), 2);
        due("force(1)", x.force(1), 0);
        due("by text 1", x.asks(0, 0, 0, 0), 1);
        Edge.of(5, "BAD.");
        due("force(-1)", x.force(-1), -2);
        due("force(3)", x.force(3), -2);
        due("force(6)", x.force(6), -2);
        for (int t : Rings.FAR) {
            due("force(" + t + ")", x.force(t), -2);
        }
        due("the law stays", x.count(3), 1);
        due("of a new object", new RingOfStraw().force(1), -2);
    }

    // ---- promise 6

    private static void asks() {
        Edge.of(6, "What part 0 force, 1 stands, 2 ahead says of a WRESTLER, ");
        RingOfStraw x = Rings.of("force weight ; stands pace ; ahead knee ;", 40, 41);
        x.put(0, 1, 3);
        x.put(0, 2, 1);
        due("force", x.asks(0, 0, 0, 0), 40);
        due("stands", x.asks(1, 0, 0, 0), 3);
        due("ahead", x.asks(2, 0, 0, 0), 1);
        due("force of another one", x.asks(0, 1, 0, 0), 41);
        // What a text says isn't yet what a kind makes of it.
        for (int kind = 1; kind < 6; kind++) {
            RingOfStraw y = Rings.of("force 40 ; stands 2 ; ahead 1 ;");
            y.man(10 * kind + 9, 0);
            due("force of a kind", y.asks(0, 0, 20, 4), 40);
            due("stands of a kind", y.asks(1, 0, 20, 4), 2);
            due("ahead of a kind", y.asks(2, 0, 20, 4), 1);
        }
        Edge.of(6, "acts being 10 times one's ACT, and the other one's (0 .. 3 each), ");
        RingOfStraw acts = Rings.of("force act * 10 + his ; stands act + his ; ahead act - his ;", 0);
        for (int act = 0; act < 4; act++) {
            for (int his = 0; his < 4; his++) {
                due("force", acts.asks(0, 0, 10 * act + his, 0), 10 * act + his);
                due("stands", acts.asks(1, 0, 10 * act + his, 0), Math.min(5, act + his));
                due("ahead", acts.asks(2, 0, 10 * act + his, 0), Math.max(-2, Math.min(2, act - his)));
            }
        }
        Edge.of(6, "cell so (0 .. 8; all of any part). ");
        RingOfStraw cell = Rings.of("force cell * 7 ; stands cell ; ahead cell - 4 ;", 0);
        for (int c = 0; c < 9; c++) {
            due("force in cell " + c, cell.asks(0, 0, 0, c), 7 * c);
            due("stands in cell " + c, cell.asks(1, 0, 0, c), Math.min(5, c));
            due("ahead in cell " + c, cell.asks(2, 0, 0, c), Math.max(-2, Math.min(2, c - 4)));
        }
    }

    private static void asksNone() {
        Edge.of(6, "-1000: none such.");
        RingOfStraw x = Rings.by("1", 0, 0);
        for (int part = 0; part < 3; part++) {
            due("no wrestler", x.asks(part, 2, 0, 0), -1000);
            due("no wrestler", x.asks(part, -1, 0, 0), -1000);
            for (int acts : new int[] {-1, 4, 9, 14, 24, 34, 39, 40, 43, 100}) {
                due("acts " + acts, x.asks(part, 0, acts, 0), -1000);
            }
            due("cell -1", x.asks(part, 0, 0, -1), -1000);
            due("cell 9", x.asks(part, 0, 0, 9), -1000);
        }
        due("part -1", x.asks(-1, 0, 0, 0), -1000);
        due("part 3", x.asks(3, 0, 0, 0), -1000);
        for (int far : Rings.FAR) {
            due("part " + far, x.asks(far, 0, 0, 0), -1000);
            due("wrestler " + far, x.asks(0, far, 0, 0), -1000);
            due("acts " + far, x.asks(0, 0, far, 0), -1000);
            due("cell " + far, x.asks(0, 0, 0, far), -1000);
        }
    }

    // ---- promises 7 to 9

    private static void man() {
        Edge.of(7, "A WRESTLER (kindMore: 10 times KIND, and MORE; weightPace: 100 times WEIGHT, and PACE): the number. ");
        RingOfStraw x = new RingOfStraw();
        int[][] come = {{0, 0}, {59, 9999}, {9, 99}, {10, 100}, {47, 1234}, {31, 9900}};
        int[][] told = {{0, 0, 0, 0}, {5, 9, 99, 99}, {0, 9, 0, 99}, {1, 0, 1, 0}, {4, 7, 12, 34}, {3, 1, 99, 0}};
        for (int m = 0; m < 6; m++) {
            due("man", x.man(come[m][0], come[m][1]), m);
        }
        for (int m = 0; m < 6; m++) {
            Rings.man(x, m, told[m][2], told[m][3], 0, 0, 0, told[m][0], told[m][1]);
        }
    }

    private static void manRefused() {
        Edge.of(7, "BAD; ");
        RingOfStraw x = new RingOfStraw();
        due("kindMore -1", x.man(-1, 0), -2);
        due("kindMore 60", x.man(60, 0), -2);
        due("weightPace -1", x.man(0, -1), -2);
        due("weightPace 10000", x.man(0, 10000), -2);
        for (int far : Rings.FAR) {
            due("kindMore " + far, x.man(far, 0), -2);
            due("weightPace " + far, x.man(0, far), -2);
        }
        due("none came", x.count(0), 0);
        Edge.of(7, "FULL.");
        for (int m = 0; m < 6; m++) {
            due("man", x.man(0, 100 * m), m);
        }
        due("a seventh", x.man(0, 900), -4);
        due("BAD ahead of FULL", x.man(60, 900), -2);
        due("BAD ahead of FULL", x.man(0, 10000), -2);
        due("none came", x.count(0), 6);
        due("the sixth stays", x.told(5, 0), 5);
    }

    private static void put() {
        Edge.of(8, "WEIGHT (what 0), PACE (1), KNEE (2) becomes v: what it was. ");
        RingOfStraw x = new RingOfStraw();
        x.man(12, 4010);
        x.man(34, 5060);
        due("weight 0", x.put(1, 0, 0), 50);
        due("weight 99", x.put(1, 0, 99), 0);
        due("pace 0", x.put(1, 1, 0), 60);
        due("pace 99", x.put(1, 1, 99), 0);
        due("knee 9", x.put(1, 2, 9), 0);
        due("knee 0", x.put(1, 2, 0), 9);
        due("knee 4", x.put(1, 2, 4), 0);
        due("the same", x.put(1, 2, 4), 4);
        Rings.man(x, 1, 99, 99, 4, 0, 0, 3, 4);
        Rings.man(x, 0, 40, 10, 0, 0, 0, 1, 2);
        Edge.of(8, "-5: no such WRESTLER; ");
        for (int m : new int[] {-1, 2, 5, 6, 10, Integer.MIN_VALUE, Integer.MAX_VALUE}) {
            due("put(" + m + ", ..)", x.put(m, 0, 1), -5);
            due("-5 ahead of -7", x.put(m, 3, 100), -5);
        }
        due("of nobody", new RingOfStraw().put(0, 0, 0), -5);
        Edge.of(8, "-7: what, v.");
        int[] most = {99, 99, 9};
        for (int what = 0; what < 3; what++) {
            due("v -1", x.put(1, what, -1), -7);
            due("v above", x.put(1, what, most[what] + 1), -7);
            for (int far : Rings.FAR) {
                due("v " + far, x.put(1, what, far), -7);
            }
        }
        for (int what : new int[] {-1, 3, 4, 5, 6, Integer.MIN_VALUE, Integer.MAX_VALUE}) {
            due("what " + what, x.put(1, what, 0), -7);
        }
        Rings.man(x, 1, 99, 99, 4, 0, 0, 3, 4);
    }

    private static void told() {
        Edge.of(9, "What 0 WEIGHT, 1 PACE, 2 KNEE, 3 WINS, 4 LOSSES, 5 KIND, 6 MORE. ");
        RingOfStraw x = Rings.by("weight", 30);
        x.man(47, 1);
        x.put(0, 1, 8);
        Rings.man(x, 0, 30, 8, 0, 0, 0, 0, 0);
        Rings.man(x, 1, 0, 1, 0, 0, 0, 4, 7);
        x.fight(0, 1, 0, 0);
        x.put(1, 2, 3);
        Rings.man(x, 0, 30, 8, 0, 1, 0, 0, 0);
        Rings.man(x, 1, 0, 1, 3, 0, 1, 4, 7);
        Edge.of(9, "-5: no such WRESTLER; ");
        for (int m : new int[] {-1, 2, 5, 6, Integer.MIN_VALUE, Integer.MAX_VALUE}) {
            due("told(" + m + ", 0)", x.told(m, 0), -5);
            due("-5 ahead of -7", x.told(m, 7), -5);
        }
        Edge.of(9, "-7: what.");
        due("what -1", x.told(0, -1), -7);
        due("what 7", x.told(0, 7), -7);
        for (int what : Rings.FAR) {
            due("what " + what, x.told(0, what), -7);
        }
    }
}
