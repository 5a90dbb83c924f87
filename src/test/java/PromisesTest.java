/** Each promise of the document, by answers worked out by hand from its words. */
public final class PromisesTest {
    private static final int NONE = -1, UNKNOWN = -101, OUTSIDE = -102, STATE = -103, FULL = -104;
    private static final int[] WRONG = {-1, Integer.MIN_VALUE, Integer.MAX_VALUE, 99};
    private static final Check CHECK = new Check();

    public static void main(String[] args) {
        constants();
        newObject();
        letter();
        blank();
        fault();
        shore();
        sand();
        boat();
        asker();
        as();
        ask();
        thank();
        draw();
        heap();
        teach();
        order();
        few();
        fewDone();
        good();
        odds();
        see();
        forget();
        send();
        seasons();
        image();
        restore();
        count();
        digest();
        CHECK.end("PromisesTest");
    }

    private static void due(String call, long got, long want) {
        CHECK.due(call, got, want);
    }

    private static void constants() {
        due("NONE", TideAsked.NONE, NONE);
        due("UNKNOWN", TideAsked.UNKNOWN, UNKNOWN);
        due("OUTSIDE", TideAsked.OUTSIDE, OUTSIDE);
        due("STATE", TideAsked.STATE, STATE);
        due("FULL", TideAsked.FULL, FULL);
    }

    // Promise 1, and what every call answers where there is no shore.
    private static void newObject() {
        TideAsked x = new TideAsked();
        for (int what = 0; what <= 12; what++) {
            due("new: count " + what, x.count(what), 0);
        }
        due("new: fault", x.fault(), 0);
        due("new: shore", x.shore(), STATE);
        due("new: sand", x.sand(0, 0), UNKNOWN);
        due("new: boat", x.boat(0, 0), UNKNOWN);
        due("new: asker", x.asker(0, 0), UNKNOWN);
        due("new: as", x.as(0, 0), UNKNOWN);
        due("new: ask", x.ask(0), UNKNOWN);
        due("new: thank", x.thank(), STATE);
        due("new: draw", x.draw(0, 0), UNKNOWN);
        due("new: heap", x.heap(0, 0), UNKNOWN);
        due("new: teach", x.teach(0, 0, 0), UNKNOWN);
        due("new: order", x.order(0), STATE);
        due("new: order, outside first", x.order(3), OUTSIDE);
        due("new: few", x.few(0, 0), UNKNOWN);
        due("new: good", x.good(), STATE);
        due("new: odds", x.odds(0, 5, 0), UNKNOWN);
        due("new: see", x.see(0, 0), UNKNOWN);
        due("new: forget", x.forget(), 0);
        due("new: send", x.send(), STATE);
        due("new: seasons", x.seasons(1, 0, 0), STATE);
        due("new: seasons, outside first", x.seasons(0, 0, 0), OUTSIDE);
        due("new: image", x.image(), STATE);
        due("new: restore", x.restore(), STATE);
        long h = 1277;
        for (int what = 0; what <= 12; what++) {
            h = 31 * h;
        }
        due("new: digest", x.digest(), h);
    }

    private static void letter() {
        TideAsked x = new TideAsked();
        due("letter 0", x.letter(0), OUTSIDE);
        due("letter 127", x.letter(127), OUTSIDE);
        for (int code : WRONG) {
            due("letter " + code, x.letter(code), code == 99 ? 1 : OUTSIDE);
        }
        due("letter 1", x.letter(1), 2);
        due("letter 126", x.letter(126), 3);
        for (int i = 4; i <= 34; i++) {
            due("letter to " + i, x.letter('0'), i);
        }
        due("letter 35th", x.letter('0'), FULL);
        due("letter 35th, outside first", x.letter(0), OUTSIDE);
        due("letters still", x.count(10), 34);
    }

    private static void blank() {
        TideAsked x = new TideAsked();
        due("blank of nothing", x.blank(), 0);
        Check.write(x, "123");
        due("blank of three", x.blank(), 3);
        due("blank again", x.blank(), 0);
        due("blank, letters", x.count(10), 0);
        TideAsked full = new TideAsked();
        Check.write(full, "0123456789012345678901234567890123");
        due("blank of 34", full.blank(), 34);
        due("a letter behind it", full.letter('0'), 1);
    }

    private static void faultOf(String text, int want) {
        TideAsked x = new TideAsked();
        Check.write(x, text);
        due("fault of " + text, x.fault(), want);
        due("letters behind fault of " + text, x.count(10), text.length());
    }

    private static void fault() {
        faultOf("000;00;a0,a0", 12);
        faultOf("99999999;79,70,09;f9,l8,s7,r6,a5", 32);
        faultOf("999999999", 8);
        faultOf("99;", 2);
        faultOf("999", 3);
        faultOf("999;3", 4);
        faultOf("999;2", 5);
        faultOf("9999;3", 6);
        faultOf("99999999;8", 9);
        faultOf("000;a", 4);
        faultOf("000;;", 4);
        faultOf("000;0;", 5);
        faultOf("000;00,00,00,", 12);
        faultOf("000;00,;", 7);
        faultOf("000;00a", 6);
        faultOf("000;00;A", 7);
        faultOf("000;00;b", 7);
        faultOf("000;00;;", 7);
        faultOf("000;00;aa", 8);
        faultOf("000;00;a0;", 9);
        faultOf("000;00;a0,a0,a0,a0,a0,", 21);
        faultOf("000;00;a0,a0;", 12);
        faultOf("a", 0);
        faultOf(" 000", 0);
        faultOf(";", 0);
        faultOf("00,", 2);
        faultOf("00:", 2);
        faultOf("00/", 2);
    }

    private static void shoreOf(String text, int want) {
        TideAsked x = new TideAsked();
        Check.write(x, text);
        due("shore of " + text, x.shore(), want);
        due("letters behind shore of " + text, x.count(10), want == STATE ? text.length() : 0);
        due("shores read behind " + text, x.count(11), want == STATE ? 0 : 1);
    }

    private static void shore() {
        shoreOf("000;00;a0,a0", 2);
        shoreOf("99999999;79,70,09;f9,l8,s7,r6,a5", 5);
        shoreOf("000;00;a0", STATE);
        shoreOf("000;00;a0,", STATE);
        shoreOf("000;00;a0,a", STATE);
        shoreOf("000;00;a0,a0,", STATE);
        shoreOf("000;00;a0,a0;", STATE);
        shoreOf("000;00", STATE);
        shoreOf("", STATE);
        shoreOf("000;30;a0,a0", STATE);
        anotherShore();
    }

    private static void anotherShore() {
        TideAsked x = Check.on("123;05;a7,s3,l0");
        x.ask(0);
        x.ask(1);
        x.ask(2);
        x.see(0, 20);
        Check.write(x, "000;0");
        due("no other shore", x.shore(), STATE);
        due("the tide stays as it was", x.count(3), 13);
        x.blank();
        Check.write(x, "0000;10,21;r1,f2");
        due("another shore", x.shore(), 2);
        int[] want = {4, 2, 2, 0, 0, 0, 0, 0, 0, 0, 0, 2, 0};
        for (int what = 0; what < want.length; what++) {
            due("another shore: count " + what, x.count(what), want[what]);
        }
        due("another shore: boat", x.boat(1, 0), 2);
        due("another shore: kind", x.asker(1, 0), 4);
        due("another shore: asker 2", x.asker(2, 0), UNKNOWN);
    }

    private static void sand() {
        TideAsked x = Check.on("3051;00,31,05;a3,a1");
        due("sand 0 high", x.sand(0, 0), 3);
        due("sand 2 high", x.sand(2, 0), 5);
        due("boats on sand 0", x.sand(0, 2), 5);
        due("boats on sand 1", x.sand(1, 2), 0);
        due("boats on sand 3", x.sand(3, 2), 2);
        due("tide 0 reaches sand 1", x.sand(1, 1), 0);
        x.ask(0);
        due("tide 3 reaches sand 0", x.sand(0, 1), 0);
        due("tide 3 reaches sand 1", x.sand(1, 1), 0);
        x.ask(1);
        due("tide 4 reaches sand 0", x.sand(0, 1), 1);
        due("tide 4 reaches sand 1", x.sand(1, 1), 1);
        due("tide 4 reaches sand 2", x.sand(2, 1), 0);
        due("tide 4 reaches sand 3", x.sand(3, 1), 0);
        x.ask(1);
        x.ask(1);
        due("tide 6 reaches sand 3", x.sand(3, 1), 1);
        due("sand 4", x.sand(4, 3), UNKNOWN);
        for (int number : WRONG) {
            due("sand " + number, x.sand(number, 0), UNKNOWN);
            due("sand 0, what " + number, x.sand(0, number), OUTSIDE);
        }
        due("sand 0, what 3", x.sand(0, 3), OUTSIDE);
    }

    private static void boat() {
        TideAsked x = Check.on("3051;11,36,10;a4,a1");
        due("boat 0 sand", x.boat(0, 0), 1);
        due("boat 1 depth", x.boat(1, 1), 6);
        due("boat 0 least", x.boat(0, 3), 4);
        due("boat 1 least", x.boat(1, 3), 7);
        due("boat 2 least", x.boat(2, 3), 4);
        due("boat 0 at 0", x.boat(0, 2), 0);
        x.ask(0);
        due("boat 0 at 4", x.boat(0, 2), 1);
        due("boat 1 at 4", x.boat(1, 2), 0);
        x.ask(1);
        x.ask(1);
        due("boat 1 at 6", x.boat(1, 2), 0);
        x.ask(1);
        due("boat 1 at 7", x.boat(1, 2), 1);
        due("boat 3", x.boat(3, 4), UNKNOWN);
        for (int number : WRONG) {
            due("boat " + number, x.boat(number, 0), UNKNOWN);
            due("boat 0, what " + number, x.boat(0, number), OUTSIDE);
        }
        due("boat 0, what 4", x.boat(0, 4), OUTSIDE);
        due("the deepest", Check.on("999;29;a0,a0").boat(0, 3), 18);
        due("no depth", Check.on("000;00;a0,a0").boat(0, 3), 1);
    }

    private static void asker() {
        TideAsked x = Check.on("000;00;a7,r8,s4,l5,f6");
        for (int i = 0; i < 5; i++) {
            due("asker kind", x.asker(i, 0), i);
        }
        x.ask(0);
        x.ask(1);
        int[] tide = {15, 11, 15, 9, 9};
        int[] grudge = {1, 2, 2, 1, 3};
        int[] manners = {7, 8, 4, 5, 6};
        int[] gain = {9, 3, 7, 1, 1};
        for (int i = 0; i < 5; i++) {
            due("asker " + i + " manners", x.asker(i, 1), manners[i]);
            due("asker " + i + " tide", x.asker(i, 2), tide[i]);
            due("asker " + i + " grudge", x.asker(i, 3), grudge[i]);
            due("asker " + i + " can have", x.asker(i, 4), 1023);
            due("asker " + i + " gain", x.asker(i, 5), gain[i]);
        }
        due("it was not asked", x.count(3), 9);
        due("asker 5", x.asker(5, 6), UNKNOWN);
        for (int number : WRONG) {
            due("asker " + number, x.asker(number, 0), UNKNOWN);
            due("asker 0, what " + number, x.asker(0, number), OUTSIDE);
        }
        due("asker 0, what 6", x.asker(0, 6), OUTSIDE);
    }

    private static void as() {
        TideAsked x = Check.on("000;00;a0,r0,s0,l0,f0");
        for (int i = 0; i < 5; i++) {
            for (int kind = 0; kind < 5; kind++) {
                boolean is = kind == 0 || kind == i || i == 4 && kind == 1;
                due("as " + i + " " + kind, x.as(i, kind), is ? i : NONE);
            }
            due("as " + i + " 5", x.as(i, 5), OUTSIDE);
        }
        for (int number : WRONG) {
            due("as 0 " + number, x.as(0, number), OUTSIDE);
            due("as " + number + " 9", x.as(number, 9), UNKNOWN);
        }
    }

    private static void ask() {
        TideAsked x = Check.on("000;00;a9,r8,s9,l5,f6");
        due("a9", x.ask(0), 9);
        due("r8, two whole thirds", x.ask(1), 11);
        due("a9 by grudge 1", x.teach(0, 0, 2), 0);
        due("a2 by grudge 1", x.ask(0), 12);
        due("f6", x.ask(4), 12);
        due("grudge 3", x.count(4), 3);
        due("a2 by grudge 3", x.ask(0), 12);
        due("l5", x.ask(3), 12);
        due("stays", x.count(5), 1);
        due("l5, grudge", x.count(4), 3);
        due("s9 by grudge 3, twice 6, 20 at most", x.ask(2), 20);
        due("grudge 4", x.count(4), 4);
        for (int i = 0; i < 3; i++) {
            x.ask(4);
        }
        due("grudge 9 at most", x.count(4), 9);
        x.ask(1);
        x.ask(2);
        due("grudge 9 still", x.count(4), 9);
        due("times", x.count(8), 12);
        due("still stays", x.count(5), 1);
        due("ask 5", x.ask(5), UNKNOWN);
        for (int number : WRONG) {
            due("ask " + number, x.ask(number), UNKNOWN);
        }
        due("times still", x.count(8), 12);
        askedOut();
    }

    // More calls than are promised to be answered: only that the count ends at 999.
    private static void askedOut() {
        TideAsked x = Check.on("000;00;a1,l0");
        for (int i = 0; i < 998; i++) {
            x.thank();
        }
        due("the 999th", x.ask(0), 1);
        due("the 1000th", x.ask(0), FULL);
        due("the 1000th, thanks", x.thank(), FULL);
        due("unknown first", x.ask(2), UNKNOWN);
        due("times at most", x.count(8), 999);
        due("tide as it was", x.count(3), 1);
    }

    private static void thank() {
        TideAsked x = Check.on("000;00;a8,f0,l0");
        due("thanks at 0", x.thank(), 0);
        x.ask(0);
        x.ask(1);
        x.ask(2);
        due("it stays", x.thank(), 8);
        due("grudge is less all the same", x.count(4), 1);
        due("it stays no more", x.count(5), 0);
        due("3 lower", x.thank(), 5);
        due("grudge 0", x.count(4), 0);
        due("3 lower again", x.thank(), 2);
        due("0 at least", x.thank(), 0);
        due("grudge 0 at least", x.count(4), 0);
        x.ask(2);
        x.ask(2);
        x.ask(0);
        due("two lovers, one stay", x.thank(), 8);
        due("two lovers, then lower", x.thank(), 5);
        due("times", x.count(8), 13);
    }

    private static void draw() {
        TideAsked x = Check.on("012;10,20;a2,a1");
        due("draw", x.draw(0, 2), 1);
        due("drawn", x.boat(0, 0), 2);
        due("drawn, bits", x.sand(2, 2), 3);
        due("drawn, left", x.sand(1, 2), 0);
        due("drawn, least", x.boat(0, 3), 3);
        due("draw where it is", x.draw(0, 2), 2);
        due("draw 2", x.draw(2, 0), UNKNOWN);
        due("draw to 3", x.draw(0, 3), UNKNOWN);
        for (int number : WRONG) {
            due("draw " + number, x.draw(number, 0), UNKNOWN);
            due("draw to " + number, x.draw(0, number), UNKNOWN);
        }
        due("drawn still", x.boat(0, 0), 2);
    }

    private static void heap() {
        TideAsked x = Check.on("012;10,20;a2,a1");
        due("heap", x.heap(0, 9), 0);
        due("heaped", x.sand(0, 0), 9);
        due("heaped, least", x.boat(1, 3), 10);
        due("heap to 0", x.heap(0, 0), 9);
        due("heap 3", x.heap(3, 10), UNKNOWN);
        due("heap 10", x.heap(0, 10), OUTSIDE);
        for (int number : WRONG) {
            due("heap " + number, x.heap(number, -1), UNKNOWN);
            due("heap so high " + number, x.heap(0, number), OUTSIDE);
        }
        due("heaped still", x.sand(0, 0), 0);
    }

    private static void teach() {
        TideAsked x = Check.on("012;10,20;a2,f1");
        due("teach", x.teach(1, 2, 9), 4);
        due("taught kind", x.asker(1, 0), 2);
        due("taught manners", x.asker(1, 1), 9);
        due("taught shouts", x.ask(1), 18);
        due("teach 0, 0", x.teach(1, 0, 0), 2);
        due("teach 2", x.teach(2, 9, 10), UNKNOWN);
        due("teach kind 5", x.teach(0, 5, 0), OUTSIDE);
        due("teach manners 10", x.teach(0, 0, 10), OUTSIDE);
        for (int number : WRONG) {
            due("teach " + number, x.teach(number, 0, 0), UNKNOWN);
            due("teach kind " + number, x.teach(0, number, 0), OUTSIDE);
            due("teach manners " + number, x.teach(0, 1, number), OUTSIDE);
        }
        due("taught still", x.asker(0, 1), 2);
        due("of his kind still", x.asker(0, 0), 0);
    }

    private static void orderIs(String text, int... want) {
        TideAsked x = Check.on(text);
        for (int i = 0; i < want.length; i++) {
            int what = i < 3 ? i : i + 7;
            due("order of " + text + " what " + what, x.order(what), want[i]);
        }
        due("order asks nobody", x.count(8), 0);
    }

    private static void order() {
        // The foreigner asks last, or his 2 of grudge are lost on the others.
        orderIs("999;01;f9,a6,a4", 1, 2, 10, 1, 2, 0, NONE, NONE);
        // All orders alike: the first by numbers.
        orderIs("000;00;a1,a2,l0,a3", 1, 0, 6, 0, 1, 2, 3, NONE);
        // As many float by every order, so the highest tide counts.
        orderIs("000;00;s1,s9", 1, 2, 18, 0, 1, NONE, NONE, NONE);
        orderIs("000;00;s3,a5", 1, 1, 11, 1, 0, NONE, NONE, NONE);
        orderIs("222;00;r9,s9,a9,f9,r3", 1, 5, 20, 0, 1, 2, 3, 4);
        orderIs("999;29;r9,s4,a5,f9,r3", 0, 5, 15, 2, 1, 0, 3, 4);
        TideAsked x = Check.on("000;00;f1,a2");
        due("order now", x.order(10), 1);
        x.ask(0);
        due("order by grudge 2", x.order(10), 0);
        due("order by grudge 2, grudge", x.order(1), 4);
        int[] outside = {-1, 3, 9, 15, Integer.MIN_VALUE, Integer.MAX_VALUE};
        for (int what : outside) {
            due("order " + what, x.order(what), OUTSIDE);
        }
    }

    private static void fewIs(TideAsked x, int boat, int... want) {
        for (int i = 0; i < want.length; i++) {
            due("few " + boat + " at " + i, x.few(boat, i == 0 ? 0 : i + 9), want[i]);
        }
    }

    private static void few() {
        fewIs(Check.on("000;00;a1,a9"), 0, 1, 0, NONE, NONE, NONE, NONE);
        fewIs(Check.on("999;29;a9,s2"), 0, 2, 0, 0, NONE, NONE, NONE);
        fewIs(Check.on("999;29;a4,a3"), 0, 5, 0, 0, 0, 0, 0);
        fewIs(Check.on("999;29;a3,a3"), 0, NONE, NONE, NONE, NONE, NONE, NONE);
        // The shouter last: ahead of the others his grudge would cost them manners.
        fewIs(Check.on("999;06;a4,s4"), 0, 3, 0, 0, 1, NONE, NONE);
        fewIs(Check.on("999;09;s6,a5"), 0, 2, 0, 0, NONE, NONE, NONE);
        TideAsked afloat = Check.on("000;00;a9,f0");
        afloat.ask(0);
        fewIs(afloat, 0, 0, NONE, NONE, NONE, NONE, NONE);
        fewByThanks();
        TideAsked x = Check.on("000;00;a9,f0");
        due("few 1", x.few(1, 1), UNKNOWN);
        for (int number : WRONG) {
            due("few " + number, x.few(number, 0), UNKNOWN);
            due("few what " + number, x.few(0, number), OUTSIDE);
        }
        int[] outside = {1, 9, 15};
        for (int what : outside) {
            due("few what " + what, x.few(0, what), OUTSIDE);
        }
        due("refusals do not count", x.count(12), 0);
    }

    // By a grudge of 2 an asker of 2 manners does nothing until the tide was thanked.
    private static void fewByThanks() {
        TideAsked x = Check.on("000;00;a2,f0");
        x.ask(1);
        fewIs(x, 0, 2, 9, 0, NONE, NONE, NONE);
        due("few asks nobody", x.count(8), 1);
    }

    private static void fewDone() {
        TideAsked x = Check.on("999;29;a0,a0");
        x.image();
        for (int i = 1; i <= 6; i++) {
            due("few, the " + i + "th", x.few(0, 0), NONE);
        }
        x.restore();
        Check.write(x, "000;00;a9,a9");
        x.shore();
        for (int i = 7; i <= 12; i++) {
            due("few, the " + i + "th", x.few(0, 0), 1);
            due("few done", x.count(12), i);
        }
        due("few, the 13th", x.few(0, 0), STATE);
        due("few, unknown first", x.few(1, 0), UNKNOWN);
        due("few, outside first", x.few(0, 1), OUTSIDE);
        due("few done at most", x.count(12), 12);
    }

    private static void good() {
        TideAsked x = Check.on("000;00;a9,f0,l0,s9");
        due("good by none", x.good(), 0);
        x.ask(1);
        due("good at tide 0", x.good(), 2);
        x.ask(0);
        due("good at 7 by 2: 1, 10", x.good(), 3);
        x.ask(2);
        due("good at 7, stays: 4, 13", x.good(), 3);
        x.ask(1);
        due("good at 7 by 4, stays", x.good(), 5);
        x.thank();
        x.thank();
        x.thank();
        due("good at 1 by 1", x.good(), 2);
        TideAsked most = Check.on("000;00;s9,f0,l0");
        most.ask(0);
        most.ask(0);
        due("good at 20 by 2: 14, 23", most.good(), 3);
        for (int i = 0; i < 5; i++) {
            most.ask(1);
        }
        due("good at 20 by 9: 0, 27", most.good(), 12);
        most.ask(2);
        due("good at 20 by 9, stays", most.good(), 12);
        for (int i = 0; i < 8; i++) {
            most.thank();
        }
        due("good at 0 by 1", most.good(), 1);
        TideAsked once = Check.on("000;00;r9,l0");
        once.ask(0);
        once.ask(1);
        due("good by 1, stays: no asking", once.good(), 1);
        due("good does nothing", once.count(4), 1);
    }

    private static void oddsAre(TideAsked x, int tenths, int above, int below) {
        due("odds of " + tenths + " above", x.odds(0, tenths, 0), above);
        due("odds of " + tenths + " below", x.odds(0, tenths, 1), below);
    }

    private static void odds() {
        TideAsked x = Check.on("000;00;a1,a1");
        oddsAre(x, 0, 0, 1);
        oddsAre(x, 1, 19, 100);
        oddsAre(x, 2, 9, 25);
        oddsAre(x, 5, 3, 4);
        oddsAre(x, 10, 1, 1);
        // By number: the foreigner comes first, so that two manners are too few behind him.
        oddsAre(Check.on("000;00;f0,a2"), 3, 21, 100);
        oddsAre(Check.on("000;00;a2,f0"), 3, 3, 10);
        oddsAre(Check.on("999;29;a9,a9,a9,a9,a9"), 3, 23589, 50000);
        TideAsked afloat = Check.on("000;00;a9,r0");
        afloat.ask(0);
        oddsAre(afloat, 0, 1, 1);
        oddsAre(afloat, 7, 1, 1);
        due("odds ask nobody", afloat.count(8), 1);
        due("odds 1", x.odds(1, 11, 2), UNKNOWN);
        due("odds of 11", x.odds(0, 11, 0), OUTSIDE);
        due("odds what 2", x.odds(0, 5, 2), OUTSIDE);
        for (int number : WRONG) {
            due("odds " + number, x.odds(number, 5, 0), UNKNOWN);
            due("odds of " + number, x.odds(0, number, 0), OUTSIDE);
            due("odds what " + number, x.odds(0, 5, number), OUTSIDE);
        }
    }

    private static void see() {
        TideAsked x = Check.on("000;00;a5,r5,s5,l5,f5");
        due("see 0", x.see(0, 7), 1);
        due("0 can have", x.asker(0, 4), 1 << 7);
        due("0 gains", x.asker(0, 5), 1);
        due("see 1", x.see(1, 2), 2);
        due("1 can have", x.asker(1, 4), 7 << 6);
        due("see 2", x.see(2, 18), 3);
        due("2 can have", x.asker(2, 4), 1 << 9);
        due("see 3", x.see(3, 0), 4);
        due("3 can have", x.asker(3, 4), 1023);
        due("see 4", x.see(4, 20), 5);
        due("4 can have", x.asker(4, 4), 0);
        due("4 gains", x.asker(4, 5), 0);
        due("his own manners as they were", x.asker(0, 1), 5);
        due("see 5", x.see(5, 21), UNKNOWN);
        due("see so high", x.see(0, 21), OUTSIDE);
        for (int number : WRONG) {
            due("see " + number, x.see(number, 0), UNKNOWN);
            due("see so high " + number, x.see(0, number), OUTSIDE);
        }
        due("see the same again", x.see(0, 7), 6);
        due("0 can have still", x.asker(0, 4), 1 << 7);
        due("see the seventh", x.see(0, 0), FULL);
        due("unknown first", x.see(9, 0), UNKNOWN);
        due("outside first", x.see(0, -1), OUTSIDE);
        due("seen", x.count(9), 6);
        seenAsItIs();
    }

    // What is seen is held against the sea and the kind as they are, not as they were then.
    private static void seenAsItIs() {
        TideAsked x = Check.on("000;00;a5,s1");
        x.see(0, 7);
        x.ask(1);
        due("by tide 2 and grudge 1", x.asker(0, 4), 1 << 6);
        x.teach(0, 2, 5);
        due("by twice", x.asker(0, 4), 0);
        x.teach(0, 4, 5);
        due("by nothing", x.asker(0, 4), 0);
        TideAsked high = Check.on("000;00;s9,a0");
        high.see(1, 20);
        high.ask(0);
        due("20 at most, by grudge 1", high.asker(1, 4), 1016);
        due("20 at most, gain", high.asker(1, 5), 1);
    }

    private static void forget() {
        TideAsked x = Check.on("000;00;a5,r5");
        due("forget nothing", x.forget(), 0);
        x.see(0, 1);
        x.see(1, 1);
        due("forget two", x.forget(), 2);
        due("forgotten", x.count(9), 0);
        due("he can have all", x.asker(0, 4), 1023);
        due("see again", x.see(0, 2), 1);
    }

    private static void send() {
        TideAsked x = Check.on("000;00;l5,f5,r5,s5,a5");
        due("send the shouter, of two alike", x.send(), 3);
        x.see(3, 1);
        due("he can have none, so the asker", x.send(), 4);
        x.see(4, 1);
        x.see(4, 2);
        due("then the rude one", x.send(), 2);
        x.see(2, 0);
        due("three left of him at worst", x.send(), 2);
        x.see(2, 9);
        due("then the lover, of two alike", x.send(), 0);
        due("seen five", x.count(9), 5);
        TideAsked none = Check.on("000;00;a5,r5");
        none.see(0, 20);
        due("only the rude one", none.send(), 1);
        none.see(1, 20);
        due("none", none.send(), NONE);
    }

    private static void seasons() {
        TideAsked x = Check.on("000;00;a3,s2");
        // 0: 12345, a draw of 4 is 0: thanks. Then 1406932606 is 21468, 0: thanks; and so on.
        due("one season, seed", x.seasons(1, 0, 2), 12345);
        due("one season, floats", x.seasons(1, 0, 0), 0);
        due("two seasons, seed", x.seasons(2, 0, 2), 1406932606);
        due("two seasons, tide", x.seasons(2, 0, 1), 0);
        // 654583775 is 9988, 0: thanks; 1449466924 is 22117, 1: by 229283573, 3498, 0 asks.
        due("four seasons, seed", x.seasons(4, 0, 2), 229283573);
        due("four seasons, tide", x.seasons(4, 0, 1), 3);
        due("four seasons, floats", x.seasons(4, 0, 0), 1);
        // 1043980748 is 15929, 1: by 288979989, 4409, 1 asks.
        due("the greatest seed", x.seasons(1, Integer.MAX_VALUE, 1), 4);
        due("it was not asked", x.count(3), 0);
        due("nor how often", x.count(8), 0);
        due("60 seasons", x.seasons(60, 1, 0) > 0 ? 1 : 0, 1);
        due("61 seasons", x.seasons(61, 1, 0), OUTSIDE);
        due("0 seasons", x.seasons(0, 1, 0), OUTSIDE);
        due("what 3", x.seasons(1, 1, 3), OUTSIDE);
        due("seed -1", x.seasons(1, -1, 0), OUTSIDE);
        for (int number : WRONG) {
            due("seasons " + number, x.seasons(number, 1, 0), OUTSIDE);
            due("seasons what " + number, x.seasons(1, 1, number), OUTSIDE);
        }
    }

    private static void image() {
        TideAsked x = Check.on("000;00;a3,s2");
        due("image at first", x.image(), 0);
        x.ask(0);
        x.thank();
        due("image later", x.image(), 2);
        x.ask(0);
        due("restore the latest", x.restore(), 2);
        due("its tide", x.count(3), 0);
    }

    private static void restore() {
        TideAsked x = Check.on("123;11;a9,s2,l4");
        due("restore none", x.restore(), STATE);
        x.ask(0);
        x.ask(1);
        x.ask(2);
        x.see(1, 15);
        long kept = x.digest();
        due("image", x.image(), 3);
        x.heap(0, 9);
        x.draw(0, 2);
        x.teach(0, 4, 1);
        x.ask(0);
        x.thank();
        x.forget();
        x.see(0, 1);
        due("restore", x.restore(), 3);
        due("all as it was", x.digest(), kept);
        due("seen as it was", x.asker(1, 4), 1 << 2);
        x.letter('1');
        x.few(0, 0);
        due("restore again", x.restore(), 3);
        due("the page is not kept", x.count(10), 1);
        due("few() is not kept", x.count(12), 1);
        due("no shore", x.shore(), STATE);
        due("restore behind a refusal", x.restore(), 3);
        x.blank();
        Check.write(x, "000;00;a3,s2");
        x.shore();
        due("restore on another shore", x.restore(), STATE);
        due("image of that", x.image(), 0);
        due("restore that", x.restore(), 0);
        due("shores are not kept", x.count(11), 2);
    }

    private static void count() {
        TideAsked x = Check.on("0419;11,00,34;a5,s2,l4,f1");
        x.ask(0);
        x.ask(2);
        x.ask(3);
        x.thank();
        x.ask(2);
        x.see(0, 3);
        x.letter(7);
        x.few(0, 0);
        int[] want = {4, 3, 4, 5, 1, 1, 2, 3, 5, 1, 1, 1, 1};
        for (int what = 0; what < want.length; what++) {
            due("count " + what, x.count(what), want[what]);
        }
        due("count 13", x.count(13), OUTSIDE);
        for (int number : WRONG) {
            due("count " + number, x.count(number), OUTSIDE);
        }
    }

    private static void digest() {
        TideAsked x = Check.on("0419;11,00,34;a5,s2,l4,f1");
        digestIsOfItsParts(x);
        x.ask(0);
        x.ask(3);
        x.see(1, 3);
        x.few(0, 0);
        Check.write(x, "12;");
        digestIsOfItsParts(x);
        TideAsked none = new TideAsked();
        Check.write(none, "~");
        digestIsOfItsParts(none);
    }

    private static void digestIsOfItsParts(TideAsked x) {
        StringBuilder page = new StringBuilder(x.count(10) == 3 ? "12;" : x.count(10) == 1 ? "~" : "");
        java.util.List<Integer> parts = new java.util.ArrayList<>();
        for (int i = 0; i < x.count(0) * 3; i++) {
            parts.add(x.sand(i / 3, i % 3));
        }
        for (int i = 0; i < x.count(1) * 6; i++) {
            parts.add(i % 6 < 4 ? x.boat(i / 6, i % 6) : x.odds(i / 6, 5, i % 6 - 4));
        }
        for (int i = 0; i < x.count(2) * 6; i++) {
            parts.add(x.asker(i / 6, i % 6));
        }
        if (x.count(2) > 0) {
            int[] whats = {0, 1, 2, 10, 11, 12, 13, 14};
            for (int what : whats) {
                parts.add(x.order(what));
            }
            parts.add(x.good());
            parts.add(x.send());
        }
        page.chars().forEach(parts::add);
        for (int what = 0; what <= 12; what++) {
            parts.add(x.count(what));
        }
        long h = 1277;
        for (int part : parts) {
            h = 31 * h + part;
        }
        due("digest", x.digest(), h);
    }
}
