/** Promises 1 to 3, 5 and 7 to 9: what there is, the tape's bytes, the law, wrestlers. */
public final class WrestlersTest {
    private static void due(String call, long got, long want) {
        Checks.due(call, got, want);
    }

    private static void newObject() {
        RingOfStraw x = new RingOfStraw();
        due("count(0)", x.count(0), 0);
        due("count(1)", x.count(1), 0);
        due("count(2)", x.count(2), 1);
        due("count(3)", x.count(3), 0);
        due("count(4)", x.count(4), 0);
        due("told(0, 0)", x.told(0, 0), -5);
        due("image()", x.image(), 0);
    }

    private static void count() {
        RingOfStraw x = new RingOfStraw();
        x.man(0, 0);
        x.man(0, 0);
        due("count(0)", x.count(0), 2);
        Checks.sheet(x, 0, 0, 0);
        x.meet(0, 5);
        due("count(1)", x.count(1), 5);
        due("a second text", Checks.read(x, "force 1;stands 1;ahead 1;"), 1);
        due("count(2)", x.count(2), 2);
        x.force(1);
        due("count(3)", x.count(3), 1);
        x.feed(3, 1, 2, 3, 4, 5);
        due("count(4)", x.count(4), 3);
        due("count(-1)", x.count(-1), -2);
        due("count(5)", x.count(5), -2);
        due("count(max)", x.count(Integer.MAX_VALUE), -2);
        due("count(min)", x.count(Integer.MIN_VALUE), -2);
    }

    private static void feed() {
        RingOfStraw x = new RingOfStraw();
        due("feed(0, ..)", x.feed(0, 0, 0, 0, 0, 0), -2);
        due("feed(6, ..)", x.feed(6, 0, 0, 0, 0, 0), -2);
        due("feed, first bad", x.feed(1, -1, 0, 0, 0, 0), -2);
        due("feed, second bad", x.feed(1, 0, 256, 0, 0, 0), -2);
        due("feed, third bad", x.feed(1, 0, 0, -1, 0, 0), -2);
        due("feed, fourth bad", x.feed(1, 0, 0, 0, 256, 0), -2);
        due("feed, fifth bad", x.feed(1, 0, 0, 0, 0, 999), -2);
        due("count(4)", x.count(4), 0);
        due("feed of 255", x.feed(5, 255, 255, 255, 255, 255), 5);
        due("text()", x.text(), -100);
        for (int n = 1; n <= 5; n++) {
            due("feed n bytes", x.feed(n, 32, 32, 32, 32, 32), n * (n + 1) / 2);
        }
        for (int i = 15; i < 155; i += 5) {
            x.feed(5, 32, 10, 32, 10, 32);
        }
        due("feed(4, ..)", x.feed(4, 32, 32, 32, 32, 32), 159);
        due("feed(2, ..), no room", x.feed(2, 65, 65, 65, 65, 65), -4);
        due("feed(2, bad), no room", x.feed(2, 65, 65, 65, 65, 256), -2);
        due("count(4)", x.count(4), 159);
        due("feed(1, ..)", x.feed(1, 32, 65, 65, 65, 65), 160);
        due("feed(1, ..), no room", x.feed(1, 65, 65, 65, 65, 65), -4);
        due("text of blanks", x.text(), -260);
        due("count(4)", x.count(4), 0);
    }

    /** Bytes come in their order: the fault tells which stood where. */
    private static void order() {
        RingOfStraw x = new RingOfStraw();
        x.feed(5, 'f', 'o', 'r', 'c', 'e');
        x.feed(2, ' ', '1', ';', ';', ';');
        x.feed(3, ' ', ' ', '#', ' ', ' ');
        due("text()", x.text(), -109);
        x.feed(4, 'f', 'o', 'r', 'c', 'e');
        x.feed(1, 'e', 'z', 'z', 'z', 'z');
        x.feed(1, '*', 'z', 'z', 'z', 'z');
        due("text()", x.text(), -105);
    }

    private static void force() {
        RingOfStraw x = new RingOfStraw();
        due("force(1), none such", x.force(1), -2);
        due("force(-1)", x.force(-1), -2);
        due("force(0)", x.force(0), 0);
        Checks.read(x, "force 7 ; stands 3 ; ahead 1 ;");
        due("force(1)", x.force(1), 0);
        due("count(3)", x.count(3), 1);
        x.man(0, 4010);
        due("asks(0)", x.asks(0, 0, 0, 0), 7);
        due("force(2), none such", x.force(2), -2);
        due("force(0)", x.force(0), 1);
        due("asks(0)", x.asks(0, 0, 0, 0), 40);
        due("force(0)", x.force(0), 0);
    }

    private static void man() {
        RingOfStraw x = new RingOfStraw();
        due("man(-1, 0)", x.man(-1, 0), -2);
        due("man(60, 0)", x.man(60, 0), -2);
        due("man(0, -1)", x.man(0, -1), -2);
        due("man(0, 10000)", x.man(0, 10000), -2);
        due("man(59, 9999)", x.man(59, 9999), 0);
        due("man(0, 0)", x.man(0, 0), 1);
        due("man(23, 4567)", x.man(23, 4567), 2);
        int[] due = {45, 67, 0, 0, 0, 2, 3};
        for (int what = 0; what < due.length; what++) {
            due("told(2, " + what + ")", x.told(2, what), due[what]);
        }
        due("told(0, 0)", x.told(0, 0), 99);
        due("told(0, 1)", x.told(0, 1), 99);
        due("told(0, 5)", x.told(0, 5), 5);
        due("told(0, 6)", x.told(0, 6), 9);
        due("told(1, 5)", x.told(1, 5), 0);
        x.man(1, 1);
        x.man(1, 1);
        due("the sixth", x.man(1, 1), 5);
        due("a seventh", x.man(1, 1), -4);
        due("a seventh, bad", x.man(60, 1), -2);
        due("count(0)", x.count(0), 6);
    }

    /** One who comes where another one was has nothing of him. */
    private static void comesAnew() {
        RingOfStraw x = new RingOfStraw();
        x.man(0, 9900);
        x.image();
        x.man(3, 100);
        x.fight(0, 1, 0, 0);
        due("told(1, 2)", x.told(1, 2), 1);
        due("told(1, 4)", x.told(1, 4), 1);
        x.back();
        due("man", x.man(10, 200), 1);
        due("told(1, 2)", x.told(1, 2), 0);
        due("told(1, 4)", x.told(1, 4), 0);
        due("told(1, 6)", x.told(1, 6), 0);
        due("told(1, 5)", x.told(1, 5), 1);
    }

    private static void put() {
        RingOfStraw x = new RingOfStraw();
        due("put(0, 0, 0), none such", x.put(0, 0, 0), -5);
        due("put(0, 9, 999), none such", x.put(0, 9, 999), -5);
        x.man(0, 4010);
        x.man(0, 4010);
        due("put(2, 0, 0)", x.put(2, 0, 0), -5);
        due("put(-1, 0, 0)", x.put(-1, 0, 0), -5);
        due("put weight", x.put(1, 0, 99), 40);
        due("put weight", x.put(1, 0, 0), 99);
        due("put weight 100", x.put(1, 0, 100), -7);
        due("put weight -1", x.put(1, 0, -1), -7);
        due("put pace", x.put(1, 1, 99), 10);
        due("put pace 100", x.put(1, 1, 100), -7);
        due("put pace -1", x.put(1, 1, -1), -7);
        due("put knee", x.put(1, 2, 9), 0);
        due("put knee 10", x.put(1, 2, 10), -7);
        due("put knee -1", x.put(1, 2, -1), -7);
        due("put wins", x.put(1, 3, 0), -7);
        due("put -1", x.put(1, -1, 0), -7);
        due("told(1, 0)", x.told(1, 0), 0);
        due("told(1, 1)", x.told(1, 1), 99);
        due("told(1, 2)", x.told(1, 2), 9);
        due("told(0, 0)", x.told(0, 0), 40);
        due("told(0, 1)", x.told(0, 1), 10);
        due("told(0, 2)", x.told(0, 2), 0);
    }

    private static void told() {
        RingOfStraw x = new RingOfStraw();
        x.man(47, 1234);
        due("told(0, 7)", x.told(0, 7), -7);
        due("told(0, -1)", x.told(0, -1), -7);
        due("told(1, 7)", x.told(1, 7), -5);
        due("told(-1, 0)", x.told(-1, 0), -5);
        due("told(6, 0)", x.told(6, 0), -5);
        due("told(0, 5)", x.told(0, 5), 4);
        due("told(0, 6)", x.told(0, 6), 7);
        x.man(0, 9900);
        x.fight(1, 0, 0, 0);
        due("told(1, 3)", x.told(1, 3), 1);
        due("told(1, 4)", x.told(1, 4), 0);
        due("told(0, 3)", x.told(0, 3), 0);
        due("told(0, 4)", x.told(0, 4), 1);
    }

    public static void main(String[] args) {
        newObject();
        count();
        feed();
        order();
        force();
        man();
        comesAnew();
        put();
        told();
        Checks.end();
    }
}
