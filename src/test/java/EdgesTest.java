import java.math.BigInteger;
import java.util.ArrayList;
import java.util.List;

/**
 * The sentences of the document that name a bound, in its order, each with a test of its own:
 * too small, too large, empty, full, wrapping around. (Refusals stand in RefusalsTest, every
 * single sea in SeaTest.)
 */
public final class EdgesTest {
    private static final int NONE = -1, UNKNOWN = -101, STATE = -103, FULL = -104;
    private static final String DIGITS = "0123456789";
    private static final Check CHECK = new Check();

    public static void main(String[] args) {
        threeToEightDigits();
        oneToThreeBoats();
        oneThatThereIs();
        twoToFiveAskers();
        kindsAreToldByTheLetter();
        atMost512Calls();
        atFirstThereIsNone();
        thePageHasAtMost34();
        blankPage();
        firstLetterThatNoShoreHas();
        anotherOneIsGone();
        reachesIfLowerAndAllBetween();
        floatsByDepthOrMore();
        leastTideByWhichItFloats();
        boatsAsBits();
        aForeignerIsRudeToo();
        tideIs0To20();
        grudge0To9();
        theNextThanksDoNotMakeItLower();
        asked999Times();
        orderEachOnce();
        orderFirstByNumbers();
        orderOfManySoMany();
        orderIsOfNow();
        few0To5();
        fewFirstByNumbers();
        fewStays();
        fewNone();
        few12TimesEver();
        goodAtLeast();
        oddsInLowestTerms();
        oddsByNumber();
        seen6AtMost();
        mannersHeCanHave();
        gainOfEachAnew();
        sendFewestAtWorst();
        sendNone();
        seasonsSoManyTimes();
        seedsWrapAround();
        imageKeepsAll();
        imageTheLatest();
        countOfNothing();
        countOfMost();
        digestWraps();
        digestOfNothing();
        digestIsOfNow();
        CHECK.end("EdgesTest");
    }

    private static void due(String sentence, long got, long want) {
        CHECK.due(sentence, got, want);
    }

    private static int faultOf(String text) {
        TideAsked x = new TideAsked();
        Check.write(x, text);
        return x.fault();
    }

    /** Behind these letters, of all 126, just the allowed ones may come. */
    private static void next(String sentence, String ahead, String allowed) {
        for (int code = 1; code <= 126; code++) {
            TideAsked x = new TideAsked();
            Check.write(x, ahead);
            x.letter(code);
            boolean may = allowed.indexOf(code) >= 0;
            due(sentence + ": " + ahead + " and letter " + code, x.fault(),
                    may ? ahead.length() + 1 : ahead.length());
        }
    }

    private static int shoreOf(String text) {
        TideAsked x = new TideAsked();
        Check.write(x, text);
        return x.shore();
    }

    // ---- 1, a shore is a text

    private static void threeToEightDigits() {
        String sentence = "three to eight digits, how HIGH (0 to 9)";
        next(sentence, "", DIGITS);
        next(sentence, "0", DIGITS);
        next(sentence, "09", DIGITS);
        next(sentence, "090", DIGITS + ";");
        next(sentence, "0909090", DIGITS + ";");
        next(sentence, "09090909", ";");
        due(sentence, shoreOf("00;00;a0,a0"), STATE);
        due(sentence, shoreOf("000;00;a0,a0"), 2);
        due(sentence, shoreOf("00000000;00;a0,a0"), 2);
        due(sentence, shoreOf("000000000;00;a0,a0"), STATE);
        TideAsked x = Check.on("90909090;00;a0,a0");
        for (int i = 0; i < 8; i++) {
            due(sentence, x.sand(i, 0), i % 2 == 0 ? 9 : 0);
        }
        due(sentence, x.sand(8, 0), UNKNOWN);
    }

    private static void oneToThreeBoats() {
        String sentence = "one to three BOATS with ',' between, each two digits";
        next(sentence, "000;0", DIGITS);
        next(sentence, "000;09", ",;");
        next(sentence, "000;00,", "012");
        next(sentence, "000;00,00,0", DIGITS);
        next(sentence, "000;00,00", ",;");
        next(sentence, "000;00,00,09", ";");
        due(sentence, shoreOf("000;;a0,a0"), STATE);
        due(sentence, shoreOf("000;00,00,00;a0,a0"), 2);
        due(sentence, shoreOf("000;00,00,00,00;a0,a0"), STATE);
        TideAsked x = Check.on("000;29,10,05;a0,a0");
        due(sentence, x.count(1), 3);
        due(sentence, x.boat(0, 1), 9);
        due(sentence, x.boat(1, 1), 0);
        due(sentence, x.boat(2, 1), 5);
    }

    private static void oneThatThereIs() {
        String sentence = "the SAND on which it is (one that there is)";
        for (int sands = 3; sands <= 8; sands++) {
            String ahead = DIGITS.substring(0, sands) + ";";
            next(sentence, ahead, DIGITS.substring(0, sands));
            next(sentence, ahead + "00,", DIGITS.substring(0, sands));
            due(sentence, Check.on(ahead + (sands - 1) + "0;a0,a0").boat(0, 0), sands - 1);
        }
    }

    private static void twoToFiveAskers() {
        String sentence = "two to five ASKERS with ',' between, each a letter and a digit";
        next(sentence, "000;00;a", DIGITS);
        next(sentence, "000;00;a0", ",");
        next(sentence, "000;00;a0,l", DIGITS);
        next(sentence, "000;00;a0,a9", ",");
        next(sentence, "000;00;a0,a9,a0,a9", ",");
        next(sentence, "000;00;a0,a9,a0,a9,a0", "");
        due(sentence, shoreOf("000;00;a0"), STATE);
        due(sentence, faultOf("000;00;a0"), 9);
        due(sentence, shoreOf("000;00;a0,a0"), 2);
        due(sentence, shoreOf("000;00;a0,a0,a0,a0,a0"), 5);
        due(sentence, shoreOf("000;00;a0,a0,a0,a0,a0,a0"), STATE);
        TideAsked x = Check.on("000;00;a0,a9");
        due(sentence, x.asker(0, 1), 0);
        due(sentence, x.asker(1, 1), 9);
        due(sentence, x.asker(2, 1), UNKNOWN);
    }

    private static void kindsAreToldByTheLetter() {
        String sentence = "KINDS are told by the letter";
        next(sentence, "000;00;", "arslf");
        next(sentence, "000;00;a0,", "arslf");
        TideAsked x = Check.on("000;00;a1,r1,s1,l1,f1");
        for (int kind = 0; kind <= 4; kind++) {
            due(sentence, x.asker(kind, 0), kind);
        }
    }

    private static void atMost512Calls() {
        String sentence = "An object is used for at most 512 calls";
        TideAsked x = Check.on("01234567;79,79,79;s9,s9,s9,r9,f9");
        long first = x.digest();
        for (int call = 35; call < 512; call++) {
            due(sentence, x.digest(), first);
        }
        due(sentence, x.digest(), first);
    }

    private static void atFirstThereIsNone() {
        String sentence = "At first there is none; then the TIDE is 0, GRUDGE is 0, it is ASKING 0";
        TideAsked x = new TideAsked();
        due(sentence, x.good(), STATE);
        Check.write(x, "000;00;a1,a1");
        due(sentence, x.good(), STATE);
        x.shore();
        due(sentence, x.good(), 0);
        due(sentence, x.count(3), 0);
        due(sentence, x.count(4), 0);
        due(sentence, x.count(5), 0);
        due(sentence, x.count(8), 0);
    }

    // ---- the page

    private static void thePageHasAtMost34() {
        String sentence = "letter: how many THE PAGE has; FULL: above 34";
        TideAsked x = new TideAsked();
        for (int i = 1; i <= 34; i++) {
            due(sentence, x.letter(i % 2 == 0 ? 1 : 126), i);
        }
        due(sentence, x.letter(1), FULL);
        due(sentence, x.count(10), 34);
        due(sentence, x.blank(), 34);
        due(sentence, x.letter(1), 1);
    }

    private static void blankPage() {
        String sentence = "blank: THE PAGE is empty: how many letters it had";
        TideAsked x = new TideAsked();
        due(sentence, x.blank(), 0);
        x.letter('x');
        due(sentence, x.fault(), 0);
        due(sentence, x.blank(), 1);
        due(sentence, x.fault(), 0);
        due(sentence, x.count(10), 0);
        Check.write(x, "000;00;a0,a0");
        due("letters from before are gone", x.fault(), 12);
        due(sentence, x.blank(), 12);
        due(sentence, x.shore(), STATE);
    }

    private static void firstLetterThatNoShoreHas() {
        String sentence = "fault: how many letters it has, if there is none";
        due(sentence, faultOf(""), 0);
        due(sentence, faultOf("0"), 1);
        String longest = "99999999;79,79,79;f9,l9,s9,r9,a9";
        for (int i = 0; i <= longest.length(); i++) {
            due(sentence, faultOf(longest.substring(0, i)), i);
        }
        sentence = "fault: the first letter that no SHORE has there, behind those ahead of it";
        due(sentence, faultOf("~00;00;a0,a0"), 0);
        due(sentence, faultOf("00~;~0;a0,a0"), 2);
        due(sentence, faultOf("000;00;a0,a~"), 11);
        due(sentence, faultOf(longest + "0"), 32);
        due(sentence, faultOf(longest + "00"), 32);
        due(sentence, faultOf("0000000000000000000000000000000000"), 8);
    }

    private static void anotherOneIsGone() {
        String sentence = "shore: another one is gone, with all that was; THE PAGE is empty then";
        TideAsked x = Check.on("90909090;79,69,59;s9,s9,s9,l9,f9");
        for (int i = 0; i < 5; i++) {
            x.ask(i);
            x.see(i, 20);
        }
        x.image();
        x.few(0, 0);
        Check.write(x, "000;00;a0,a0");
        due(sentence, x.shore(), 2);
        int[] counts = {3, 1, 2, 0, 0, 0, 0, 0, 0, 0, 0, 2, 1};
        for (int what = 0; what < counts.length; what++) {
            due(sentence + ", count " + what, x.count(what), counts[what]);
        }
        due(sentence, x.sand(3, 0), UNKNOWN);
        due(sentence, x.boat(1, 0), UNKNOWN);
        due(sentence, x.asker(2, 0), UNKNOWN);
        due(sentence, x.asker(0, 4), 1023);
        due(sentence, x.restore(), STATE);
        due(sentence, x.fault(), 0);
        due(sentence, x.shore(), STATE);
    }

    // ---- terms

    private static TideAsked at(String sandsAndBoats, int tide) {
        TideAsked x = Check.on(sandsAndBoats + ";a0,a0");
        for (int left = tide; left > 0; left -= 9) {
            x.teach(0, 0, Math.min(left, 9));
            x.ask(0);
        }
        return x;
    }

    private static void reachesIfLowerAndAllBetween() {
        String sentence = "It REACHES a SAND, if that lies lower than the TIDE, and all between";
        due(sentence, at("000;00", 0).sand(0, 1), 0);
        due(sentence, at("000;00", 1).sand(0, 1), 1);
        due(sentence, at("900;00", 9).sand(0, 1), 0);
        due(sentence, at("900;00", 10).sand(0, 1), 1);
        due(sentence, at("090;00", 9).sand(2, 1), 0);
        due(sentence, at("090;00", 10).sand(2, 1), 1);
        due(sentence, at("00000005;00", 5).count(7), 7);
        due(sentence, at("00000005;00", 6).count(7), 8);
        due(sentence, at("50000000;00", 5).count(7), 0);
        due(sentence, at("50000000;00", 6).count(7), 8);
        due(sentence, at("99999999;00", 20).count(7), 8);
    }

    private static void floatsByDepthOrMore() {
        String sentence = "A BOAT FLOATS, if the TIDE is higher than its SAND by its DEPTH or more";
        due(sentence, at("300;05", 7).boat(0, 2), 0);
        due(sentence, at("300;05", 8).boat(0, 2), 1);
        due(sentence, at("300;05", 9).boat(0, 2), 1);
        sentence = "A BOAT FLOATS, if the TIDE REACHES its SAND (DEPTH 0)";
        due(sentence, at("300;00", 3).boat(0, 2), 0);
        due(sentence, at("300;00", 4).boat(0, 2), 1);
        due(sentence, at("300;01", 4).boat(0, 2), 1);
        due(sentence, at("730;11", 7).boat(0, 2), 0);
        due(sentence, at("730;11", 8).boat(0, 2), 1);
        due(sentence, at("999;29,29,29", 17).count(6), 0);
        due(sentence, at("999;29,29,29", 18).count(6), 3);
    }

    private static void leastTideByWhichItFloats() {
        String sentence = "boat: the least TIDE by which it does";
        due(sentence, Check.on("000;00;a0,a0").boat(0, 3), 1);
        due(sentence, Check.on("000;01;a0,a0").boat(0, 3), 1);
        due(sentence, Check.on("000;02;a0,a0").boat(0, 3), 2);
        due(sentence, Check.on("009;20;a0,a0").boat(0, 3), 10);
        due(sentence, Check.on("900;20;a0,a0").boat(0, 3), 10);
        due(sentence, Check.on("900;29;a0,a0").boat(0, 3), 10);
        due(sentence, Check.on("901;29;a0,a0").boat(0, 3), 10);
        due(sentence, Check.on("902;29;a0,a0").boat(0, 3), 11);
        due(sentence, Check.on("999;29;a0,a0").boat(0, 3), 18);
        due("what lies behind the boat does not matter", Check.on("099;00;a0,a0").boat(0, 3), 1);
        for (int tide = 0; tide <= 20; tide++) {
            TideAsked x = at("0419;11,00,34", tide);
            for (int boat = 0; boat < 3; boat++) {
                due(sentence, x.boat(boat, 2), tide >= x.boat(boat, 3) ? 1 : 0);
            }
        }
    }

    private static void boatsAsBits() {
        String sentence = "sand: which BOATS are there, as bits";
        TideAsked x = Check.on("000;20,20,20;a0,a0");
        due(sentence, x.sand(2, 2), 7);
        due(sentence, x.sand(0, 2), 0);
        x.draw(1, 0);
        due(sentence, x.sand(2, 2), 5);
        due(sentence, x.sand(0, 2), 2);
        x.draw(1, 2);
        due(sentence, x.sand(2, 2), 7);
    }

    private static void aForeignerIsRudeToo() {
        String sentence = "All are ASKERS; a FOREIGNER is RUDE, too";
        TideAsked x = Check.on("000;00;f0,r0");
        due(sentence, x.as(0, 4), 0);
        due(sentence, x.as(0, 1), 0);
        due(sentence, x.as(0, 0), 0);
        due(sentence, x.as(0, 2), NONE);
        due(sentence, x.as(0, 3), NONE);
        due("a RUDE one is no FOREIGNER", x.as(1, 4), NONE);
        due("his own number, not that of the KIND", x.as(1, 0), 1);
        x.teach(0, 3, 0);
        due("as he was brought up now", x.as(0, 1), NONE);
        due("as he was brought up now", x.as(0, 3), 0);
    }

    private static void tideIs0To20() {
        String sentence = "The TIDE is 0 to 20";
        due(sentence, at("000;00", 19).ask(1), 19);
        TideAsked x = at("000;00", 19);
        x.teach(0, 0, 1);
        due(sentence, x.ask(0), 20);
        due(sentence, x.ask(0), 20);
        x.teach(0, 2, 9);
        due(sentence, x.asker(0, 2), 20);
        due(sentence, x.ask(0), 20);
        due("One who THANKS makes it 3 lower (0 at least)", at("000;00", 4).thank(), 1);
        due("One who THANKS makes it 3 lower (0 at least)", at("000;00", 3).thank(), 0);
        due("One who THANKS makes it 3 lower (0 at least)", at("000;00", 2).thank(), 0);
        due("One who THANKS makes it 3 lower (0 at least)", at("000;00", 0).thank(), 0);
    }

    private static void grudge0To9() {
        String sentence = "GRUDGE is more behind it (9 at most)";
        TideAsked x = Check.on("000;00;f0,r9,s9,a9");
        int[] want = {2, 4, 6, 8, 9, 9};
        for (int grudge : want) {
            x.ask(0);
            due(sentence, x.count(4), grudge);
        }
        x.ask(1);
        x.ask(2);
        due(sentence, x.count(4), 9);
        due("his MANNERS, less GRUDGE (0 at least)", x.ask(3), 0);
        for (int grudge = 8; grudge >= 0; grudge--) {
            x.thank();
            due("GRUDGE 1 less", x.count(4), grudge);
        }
        x.thank();
        due("GRUDGE 1 less (0 at least)", x.count(4), 0);
        due("GRUDGE is 1 more behind it, not ahead of it", x.ask(1), 3);
    }

    private static void theNextThanksDoNotMakeItLower() {
        String sentence = "it STAYS: the next THANKS do not make it lower";
        TideAsked x = Check.on("000;00;a9,l9,f0");
        x.ask(0);
        x.ask(1);
        due(sentence, x.count(3), 9);
        x.ask(1);
        x.ask(0);
        due("an asking does not end it", x.count(5), 1);
        due(sentence, x.thank(), 18);
        due("it does not STAY any more then", x.count(5), 0);
        due("it does not STAY any more then", x.thank(), 15);
        x.ask(2);
        x.ask(1);
        x.thank();
        due("and GRUDGE 1 less, though it STAYS", x.count(4), 1);
    }

    // 512 calls cannot come to it; what is told beyond them is free, but it may not fail to end.
    private static void asked999Times() {
        String sentence = "FULL: 999 times any ASKED or THANKED";
        TideAsked x = Check.on("000;00;a1,l0");
        for (int i = 1; i <= 999; i++) {
            due(sentence, i % 2 == 0 ? x.ask(1) : x.thank(), 0);
            due(sentence, x.count(8), i);
        }
        due(sentence, x.ask(0), FULL);
        due(sentence, x.thank(), FULL);
        due("unknown first", x.ask(2), UNKNOWN);
        due(sentence, x.count(8), 999);
    }

    // ---- what would be

    private static void orderEachOnce() {
        String sentence = "ORDER: all ASKERS, each once";
        for (String text : new String[] {"222;00;r9,s9,a9,f9,r3", "999;29;f9,f9,s9,l9,a9"}) {
            TideAsked x = Check.on(text);
            int bits = 0;
            for (int what = 10; what <= 14; what++) {
                bits |= 1 << x.order(what);
            }
            due(sentence, bits, 31);
        }
        sentence = "ORDER: the very last of all orders";
        // a1 and s2 by no grudge yet, then 6 of r7 by 1 and 6 of r8 by 2: no other order has 9.
        TideAsked last = Check.on("999;29;f8,r8,r7,s2,a1");
        due(sentence, last.order(2), 9);
        for (int i = 0; i < 5; i++) {
            due(sentence, last.order(10 + i), 4 - i);
        }
        TideAsked lastOfTwo = Check.on("999;29;f0,a2");
        due(sentence, lastOfTwo.order(10), 1);
        due(sentence, lastOfTwo.order(11), 0);
    }

    private static void orderFirstByNumbers() {
        String sentence = "ORDER: of like ones the first by numbers";
        TideAsked x = Check.on("000;00;a0,a0,a0,a0,a0");
        for (int i = 0; i < 5; i++) {
            due(sentence, x.order(10 + i), i);
        }
        // At 20 every order is alike again.
        TideAsked full = Check.on("999;29;f0,s9,s9");
        for (int i = 0; i < 2; i++) {
            full.ask(1);
        }
        due("the TIDE is 20 at most", full.order(2), 20);
        for (int i = 0; i < 3; i++) {
            due(sentence, full.order(10 + i), i);
        }
        // By a grudge of 9 nobody moves it.
        TideAsked sullen = Check.on("000;00;f9,a9");
        for (int i = 0; i < 5; i++) {
            sullen.ask(0);
        }
        due(sentence, sullen.order(0), 0);
        due("GRUDGE is 9 at most", sullen.order(1), 9);
        due(sentence, sullen.order(2), 0);
        due(sentence, sullen.order(10), 0);
    }

    private static void orderOfManySoMany() {
        String sentence = "order: the so-manieth ASKER (NONE: there are not so many)";
        String askers = "a1,a1,a1,a1,a1";
        for (int many = 2; many <= 5; many++) {
            TideAsked x = Check.on("000;00;" + askers.substring(0, 3 * many - 1));
            for (int i = 0; i < 5; i++) {
                due(sentence, x.order(10 + i), i < many ? i : NONE);
            }
        }
        TideAsked fewer = Check.on("000;00;f1,a4,a4,a4,a4");
        due("the last asks last", fewer.order(14), 0);
        Check.write(fewer, "000;00;a1,a1");
        fewer.shore();
        due("nothing is left of an order of five", fewer.order(12), NONE);
        due("nothing is left of an order of five", fewer.order(10), 0);
    }

    private static void orderIsOfNow() {
        String sentence = "ORDER: in which order all ASKERS should ASK now";
        TideAsked x = Check.on("555;00;f0,a6");
        due(sentence, x.order(10), 1);
        due(sentence, x.order(0), 1);
        x.heap(0, 9);
        due("heaped since", x.order(0), 0);
        x.teach(0, 0, 9);
        due("taught since", x.order(0), 1);
        due("taught since", x.order(1), 0);
        due("taught since", x.order(2), 15);
        due("ORDER asks nobody", x.count(8), 0);
        due("ORDER asks nobody", x.count(3), 0);
    }

    private static void fewIs(String sentence, TideAsked x, int few, int... who) {
        due(sentence + ": how few", x.few(0, 0), few);
        for (int i = 0; i < 5; i++) {
            due(sentence + ": at " + i, x.few(0, 10 + i), i < who.length ? who[i] : NONE);
        }
    }

    private static void few0To5() {
        String sentence = "FEW: by how few times (0 to 5)";
        fewIs(sentence, at("000;00", 1), 0);
        fewIs(sentence, Check.on("000;01;a1,a0"), 1, 0);
        fewIs(sentence, Check.on("000;04;a1,a0"), 4, 0, 0, 0, 0);
        fewIs(sentence, Check.on("000;05;a1,a0"), 5, 0, 0, 0, 0, 0);
        fewIs(sentence, Check.on("000;06;a1,a0"), NONE);
        fewIs("the last asker", Check.on("000;09;a1,a1,a1,a1,a9"), 1, 4);
        due("FEW asks nobody", at("000;00", 1).count(8), 1);
    }

    private static void fewFirstByNumbers() {
        String sentence = "FEW: of like ones the first by numbers (9: one THANKS)";
        fewIs(sentence, Check.on("000;01;l0,a9,a9"), 1, 1);
        fewIs(sentence, Check.on("000;02;a1,s1"), 1, 1);
        fewIs(sentence, Check.on("000;05;a1,a4"), 2, 0, 1);
        // By a grudge of 1 the last one asks twice, or one thanks and he asks: 4 stands ahead of 9.
        TideAsked x = Check.on("000;05;l0,l0,l0,r0,a5");
        x.ask(3);
        fewIs(sentence, x, 2, 4, 4);
        // By a grudge of 5 he must not ask first.
        TideAsked sullen = Check.on("000;01;f0,a5,r0");
        sullen.ask(0);
        sullen.ask(0);
        sullen.ask(2);
        fewIs("only THANKS help", sullen, 2, 9, 1);
    }

    // At 9 by a grudge of 3, for a boat that needs 10 and an asker of 3 manners.
    private static TideAsked sullenAtNine() {
        TideAsked x = Check.on("900;00;a3,l0,f0,r0");
        x.teach(0, 0, 9);
        x.ask(0);
        x.teach(0, 0, 3);
        x.ask(2);
        x.ask(3);
        due("the tide", x.count(3), 9);
        due("the grudge", x.count(4), 3);
        return x;
    }

    private static void fewStays() {
        String sentence = "FEW: the next THANKS do not make it lower, if it STAYS";
        fewIs(sentence, sullenAtNine(), 3, 1, 9, 0);
        TideAsked stays = sullenAtNine();
        stays.ask(1);
        due("it stays", stays.count(5), 1);
        fewIs(sentence, stays, 2, 9, 0);
        due("FEW leaves it so", stays.count(5), 1);
        TideAsked twice = sullenAtNine();
        // Of 2 manners something is left by a grudge of 1 only: two thanks, a lover ahead of each.
        twice.teach(0, 0, 2);
        fewIs("STAYS for the next THANKS alone", twice, 5, 1, 9, 1, 9, 0);
    }

    private static void fewNone() {
        String sentence = "FEW: none";
        fewIs(sentence, Check.on("999;29;a0,l9,f9"), NONE);
        TideAsked x = Check.on("000;05;a1,a0");
        due("some", x.few(0, 0), 5);
        x.heap(0, 1);
        fewIs("none, though some were", x, NONE);
    }

    private static void few12TimesEver() {
        String sentence = "few: STATE: few() was done 12 times ever";
        TideAsked x = Check.on("000;00,00;a1,a0");
        x.image();
        for (int i = 1; i <= 11; i++) {
            due(sentence, x.few(i % 2, i % 2 == 0 ? 0 : 14), i % 2 == 0 ? 1 : NONE);
            due("refusals do not count", x.few(2, 0), UNKNOWN);
            due("IMAGES do not matter", x.restore(), 0);
            due(sentence, x.count(12), i);
        }
        Check.write(x, "000;06;a1,a0");
        x.shore();
        due("whatever SHORE", x.count(12), 11);
        due("all else counts, none too", x.few(0, 0), NONE);
        due(sentence, x.count(12), 12);
        due(sentence, x.few(0, 0), STATE);
        Check.write(x, "000;06;a1,a0");
        x.shore();
        due("whatever SHORE", x.few(0, 0), STATE);
    }

    private static TideAsked sea(int tide, int grudge, boolean stays) {
        TideAsked x = at("000;00", tide);
        for (int left = grudge; left > 0; left -= 2) {
            x.teach(0, left == 1 ? 1 : 4, 0);
            x.ask(0);
        }
        if (stays) {
            x.teach(0, 3, 0);
            x.ask(0);
        }
        return x;
    }

    private static void goodAtLeast() {
        String sentence = "GOOD: how often all together, at least";
        due(sentence, sea(0, 0, false).good(), 0);
        due(sentence, sea(20, 0, false).good(), 0);
        due(sentence, sea(20, 0, true).good(), 0);
        due("no lower than now, at 0", sea(0, 9, false).good(), 9);
        due("0 at least: 1 lost, not 3", sea(1, 9, false).good(), 10);
        due("9 lost, one asking", sea(9, 3, false).good(), 4);
        due("10 lost, two askings", sea(10, 4, false).good(), 6);
        due("9 lost of 10, one asking", sea(10, 3, false).good(), 4);
        due("18 lost, two askings", sea(18, 6, false).good(), 8);
        due("19 lost, three askings", sea(19, 7, false).good(), 10);
        due("20 lost, three askings", sea(20, 9, false).good(), 12);
        due("it STAYS for the first", sea(20, 1, true).good(), 1);
        due("it STAYS for the first alone", sea(20, 2, true).good(), 3);
        due("it STAYS: 18 lost, not 21", sea(20, 7, true).good(), 9);
    }

    private static void oddsAre(String sentence, TideAsked x, int tenths, int above, int below) {
        due(sentence + " of " + tenths + ", above", x.odds(0, tenths, 0), above);
        due(sentence + " of " + tenths + ", below", x.odds(0, tenths, 1), below);
    }

    private static void oddsInLowestTerms() {
        String sentence = "ODDS in lowest terms (0 of 1)";
        TideAsked never = Check.on("999;29;a0,a0,a0,a0,a0");
        TideAsked ever = at("000;00", 1);
        TideAsked byAll = Check.on("000;05;a1,a1,a1,a1,a1");
        TideAsked byAny = Check.on("000;00;a1,a1,a1,a1,a1");
        for (int tenths = 0; tenths <= 10; tenths++) {
            oddsAre(sentence, never, tenths, 0, 1);
            oddsAre(sentence, ever, tenths, 1, 1);
        }
        oddsAre(sentence, byAll, 0, 0, 1);
        oddsAre(sentence, byAll, 1, 1, 100000);
        oddsAre(sentence, byAll, 5, 1, 32);
        oddsAre(sentence, byAll, 9, 59049, 100000);
        oddsAre(sentence, byAll, 10, 1, 1);
        oddsAre(sentence, byAny, 0, 0, 1);
        oddsAre(sentence, byAny, 1, 40951, 100000);
        oddsAre(sentence, byAny, 9, 99999, 100000);
        oddsAre(sentence, byAny, 10, 1, 1);
        oddsAre(sentence, Check.on("000;00;a1,l0"), 2, 1, 5);
        oddsAre(sentence, Check.on("000;00;l0,a1"), 4, 2, 5);
    }

    private static void oddsByNumber() {
        String sentence = "ODDS: each ASKER, by number";
        oddsAre(sentence, Check.on("000;00;r0,a1"), 1, 9, 100);
        oddsAre(sentence, Check.on("000;00;a1,r0"), 1, 1, 10);
        TideAsked x = Check.on("000;00;a1,r0");
        x.ask(1);
        oddsAre("as GRUDGE is now", x, 10, 0, 1);
        due("ODDS ask nobody", x.count(8), 1);
    }

    // ---- what is seen

    private static void seen6AtMost() {
        String sentence = "SEEN (6 at most)";
        TideAsked x = Check.on("000;00;a5,a5");
        for (int i = 1; i <= 6; i++) {
            due(sentence, x.see(i % 2, 20), i);
            due(sentence, x.count(9), i);
        }
        due(sentence, x.see(0, 20), FULL);
        due(sentence, x.count(9), 6);
        due("forget: how much was", x.forget(), 6);
        due("forget: how much was", x.forget(), 0);
        due("all can be again", x.asker(0, 4), 1023);
        due(sentence, x.see(0, 0), 1);
    }

    private static void mannersHeCanHave() {
        String sentence = "MANNERS (0 to 9) he can have, so that all that is SEEN of him is so";
        TideAsked x = Check.on("000;00;a5,r5,s5,l5,f5");
        int[][] rows = {{0, 0, 1}, {0, 9, 512}, {0, 10, 0}, {1, 0, 7}, {1, 3, 512}, {1, 4, 0},
            {2, 0, 1}, {2, 1, 0}, {2, 18, 512}, {2, 19, 0}, {2, 20, 0}, {3, 0, 1023}, {3, 1, 0},
            {4, 0, 1023}, {4, 20, 0}};
        for (int[] row : rows) {
            x.see(row[0], row[1]);
            due(sentence + ": " + row[0] + " seen " + row[1], x.asker(row[0], 4), row[2]);
            x.forget();
        }
        x.see(1, 1);
        x.see(1, 1);
        due("the same twice", x.asker(1, 4), 56);
        x.see(1, 2);
        due("both cannot be", x.asker(1, 4), 0);
        due("GAIN of none", x.asker(1, 5), 0);
        due("of another nothing is SEEN", x.asker(0, 4), 1023);
        due("his own MANNERS do not matter", x.asker(1, 1), 5);
    }

    private static void gainOfEachAnew() {
        String sentence = "GAIN: into how many unlike TIDES these fall";
        TideAsked x = Check.on("000;00;a0,r0,s0,l0,f0");
        int[] gain = {10, 4, 10, 1, 1};
        for (int i = 0; i < 5; i++) {
            due(sentence, x.asker(i, 5), gain[i]);
        }
        for (int i = 4; i >= 0; i--) {
            due(sentence, x.asker(i, 5), gain[i]);
        }
        TideAsked high = sea(20, 0, false);
        due("at 20 all fall into one", high.asker(1, 5), 1);
        TideAsked near = sea(18, 0, false);
        due("18, 19, 20", near.asker(1, 5), 3);
        TideAsked sullen = sea(0, 9, false);
        due("by a grudge of 9 all fall into one", sullen.asker(1, 5), 1);
        TideAsked nearly = sea(0, 8, false);
        due("by a grudge of 8 into two", nearly.asker(1, 5), 2);
    }

    private static void sendFewestAtWorst() {
        String sentence = "SEND: at worst fewest MANNERS are left; of like ones the least";
        due(sentence, Check.on("000;00;l0,f0").send(), 0);
        due(sentence, Check.on("000;00;l0,r0").send(), 1);
        due(sentence, Check.on("000;00;r0,a0").send(), 1);
        due(sentence, Check.on("000;00;a0,s0").send(), 0);
        due(sentence, Check.on("000;00;l0,l0,l0,l0,s0").send(), 4);
        TideAsked high = sea(20, 0, false);
        due("at 20 all are alike", high.send(), 0);
        TideAsked x = Check.on("000;00;a0,r0");
        x.see(1, 3);
        due("one is left of both", x.send(), 0);
        x.see(0, 20);
        due("of him none is left", x.send(), 1);
        TideAsked third = Check.on("000;00;r0,l0");
        third.see(0, 0);
        due("three are left, not ten", third.send(), 0);
    }

    private static void sendNone() {
        String sentence = "SEND: none, if of none any are";
        TideAsked x = Check.on("000;00;a0,a0,a0,a0,a0");
        for (int i = 0; i < 4; i++) {
            x.see(i, 20);
            due("any of the next", x.send(), i + 1);
        }
        x.see(4, 20);
        due(sentence, x.send(), NONE);
        x.forget();
        due("forgotten", x.send(), 0);
    }

    // ---- seasons

    private static final BigInteger BY = BigInteger.ONE.shiftLeft(31);

    private static BigInteger seedAfter(BigInteger seed) {
        return seed.multiply(BigInteger.valueOf(1103515245L)).add(BigInteger.valueOf(12345))
                .mod(BY);
    }

    private static int drawn(BigInteger seed, int many) {
        return seed.divide(BigInteger.valueOf(65536)).mod(BigInteger.valueOf(many)).intValue();
    }

    /** Does on x itself what seasons() only tells of: how many float, the tide, the seed. */
    private static long[] lived(TideAsked x, int times, int firstSeed) {
        BigInteger seed = BigInteger.valueOf(firstSeed);
        long floats = 0;
        for (int i = 0; i < times; i++) {
            seed = seedAfter(seed);
            if (drawn(seed, 4) == 0) {
                x.thank();
            } else {
                seed = seedAfter(seed);
                x.ask(drawn(seed, x.count(2)));
            }
            floats += x.count(6);
        }
        return new long[] {floats, x.count(3), seed.longValueExact()};
    }

    private static void seasonsSoManyTimes() {
        String sentence = "SEASONS: so many times (1 to 60)";
        String[] texts = {"000;00;a3,s2", "01234567;79,20,45;r9,f9,a9,l0,s3", "444;00,29;a1,l0,f2"};
        for (String text : texts) {
            for (int times : new int[] {1, 2, 3, 30, 59, 60}) {
                for (int seed : new int[] {0, 1, 861, 65535, 65536, 1000000007, Integer.MAX_VALUE}) {
                    TideAsked x = Check.on(text);
                    x.ask(1);
                    long[] told = {x.seasons(times, seed, 0), x.seasons(times, seed, 1),
                        x.seasons(times, seed, 2)};
                    due("as they would be: nobody asks", x.count(8), 1);
                    long[] want = lived(x, times, seed);
                    for (int what = 0; what < 3; what++) {
                        due(sentence + " " + text + " " + times + " by " + seed, told[what], want[what]);
                    }
                }
            }
        }
    }

    private static void seedsWrapAround() {
        String sentence = "1103515245 times it and 12345, its rest by 2 to the 31";
        TideAsked x = Check.on("000;00;a0,a0");
        boolean thanksSeen = false;
        boolean askSeen = false;
        for (int seed : new int[] {0, 1, 2, 3, 4, 5, 6, 7, 8, 9, 1 << 16, 1 << 30, Integer.MAX_VALUE - 1,
            Integer.MAX_VALUE}) {
            BigInteger next = seedAfter(BigInteger.valueOf(seed));
            boolean thanks = drawn(next, 4) == 0;
            thanksSeen |= thanks;
            askSeen |= !thanks;
            long want = (thanks ? next : seedAfter(next)).longValueExact();
            due(sentence + ", seed " + seed, x.seasons(1, seed, 2), want);
        }
        due("both kinds of season", thanksSeen && askSeen ? 1 : 0, 1);
    }

    // ---- images

    private static void imageKeepsAll() {
        String sentence = "An IMAGE keeps ";
        TideAsked x = Check.on("10000002;70,12,01;a9,s4,l0,r3,f1");
        for (int i = 0; i < 4; i++) {
            x.ask(i);
        }
        for (int i = 0; i < 6; i++) {
            x.see(i % 5, 20 - i);
        }
        long whole = x.digest();
        due("image: how often any ASKED or THANKED", x.image(), 4);
        x.heap(7, 9);
        due(sentence + "HEIGHTS", restored(x).sand(7, 0), 2);
        x.draw(2, 7);
        due(sentence + "BOATS", restored(x).boat(2, 0), 0);
        x.teach(4, 0, 9);
        due(sentence + "KINDS", restored(x).asker(4, 0), 4);
        due(sentence + "MANNERS", x.asker(4, 1), 1);
        x.ask(4);
        x.thank();
        due(sentence + "the TIDE", restored(x).count(3), 17);
        due(sentence + "GRUDGE", x.count(4), 2);
        due(sentence + "whether it STAYS", x.count(5), 1);
        due(sentence + "how often any ASKED or THANKED", x.count(8), 4);
        x.forget();
        x.see(0, 0);
        due(sentence + "SEEN", restored(x).count(9), 6);
        due(sentence + "all", x.digest(), whole);
        Check.write(x, "ab");
        x.few(0, 0);
        due("nor THE PAGE", restored(x).count(10), 2);
        due("nor how often few() was done", x.count(12), 1);
    }

    private static TideAsked restored(TideAsked x) {
        due("restore: how often any ASKED or THANKED", x.restore(), 4);
        return x;
    }

    private static void imageTheLatest() {
        String sentence = "An IMAGE is kept (one; the latest)";
        TideAsked x = Check.on("000;00;a1,a1");
        due(sentence, x.image(), 0);
        x.ask(0);
        due(sentence, x.image(), 1);
        x.ask(0);
        due(sentence, x.restore(), 1);
        due(sentence, x.restore(), 1);
        due(sentence, x.count(3), 1);
        due("an image of what was restored", x.image(), 1);
        x.blank();
        due("a page that is none reads no shore", x.shore(), STATE);
        due(sentence, x.restore(), 1);
    }

    // ---- what is told of all

    private static void countOfNothing() {
        TideAsked x = new TideAsked();
        for (int what = 0; what <= 12; what++) {
            due("count " + what + " of nothing", x.count(what), 0);
        }
    }

    private static void countOfMost() {
        TideAsked x = Check.on("00000000;00,10,20;s9,f9,l9,a9,r9");
        for (int i = 0; i < 6; i++) {
            x.ask(i % 2 == 0 ? 0 : 3);
            x.see(0, 0);
        }
        for (int i = 0; i < 5; i++) {
            x.ask(1);
        }
        x.ask(2);
        Check.write(x, "0000000000000000000000000000000000");
        for (int i = 0; i < 12; i++) {
            x.few(0, 0);
        }
        int[] most = {8, 3, 5, 20, 9, 1, 3, 8, 12, 6, 34, 1, 12};
        for (int what = 0; what <= 12; what++) {
            due("count " + what + " of most", x.count(what), most[what]);
        }
    }

    private static List<Integer> parts(TideAsked x, String page) {
        List<Integer> all = new ArrayList<>();
        for (int i = 0; i < x.count(0); i++) {
            for (int what = 0; what <= 2; what++) {
                all.add(x.sand(i, what));
            }
        }
        for (int i = 0; i < x.count(1); i++) {
            for (int what = 0; what <= 3; what++) {
                all.add(x.boat(i, what));
            }
            all.add(x.odds(i, 5, 0));
            all.add(x.odds(i, 5, 1));
        }
        for (int i = 0; i < x.count(2); i++) {
            for (int what = 0; what <= 5; what++) {
                all.add(x.asker(i, what));
            }
        }
        if (x.count(2) > 0) {
            for (int what : new int[] {0, 1, 2, 10, 11, 12, 13, 14}) {
                all.add(x.order(what));
            }
            all.add(x.good());
            all.add(x.send());
        }
        page.chars().forEach(all::add);
        for (int what = 0; what <= 12; what++) {
            all.add(x.count(what));
        }
        return all;
    }

    private static BigInteger unwrapped(List<Integer> parts) {
        BigInteger h = BigInteger.valueOf(1277);
        for (int part : parts) {
            h = h.multiply(BigInteger.valueOf(31)).add(BigInteger.valueOf(part));
        }
        return h;
    }

    private static void digestWraps() {
        String sentence = "digest: 31 times h, and it (as longs, wrapping)";
        TideAsked x = Check.on("98765432;79,00,45;a5,s2,l4,f1,r9");
        x.ask(0);
        x.ask(1);
        x.see(0, 20);
        x.see(1, 20);
        String page = "~" + (char) 1 + "0;,arslf";
        Check.write(x, page);
        BigInteger h = unwrapped(parts(x, page));
        due("it is far above a long", h.bitLength() > 300 ? 1 : 0, 1);
        due(sentence, x.digest(), h.longValue());
    }

    private static void digestOfNothing() {
        TideAsked x = new TideAsked();
        BigInteger h = unwrapped(parts(x, ""));
        due("digest of nothing: without a SHORE no order(), good(), send()", x.digest(), h.longValue());
        String page = "0123456789012345678901234567890123";
        Check.write(x, page);
        due("digest of a full page", x.digest(), unwrapped(parts(x, page)).longValue());
        due("digest of a blank page", x.blank(), 34);
        due("digest of a blank page", x.digest(), h.longValue());
    }

    private static void digestIsOfNow() {
        String sentence = "digest: what order() tells, of now";
        TideAsked x = Check.on("555;00;f0,a6");
        due("an order ahead of it", x.order(10), 1);
        x.teach(0, 0, 9);
        x.heap(0, 9);
        long told = x.digest();
        due(sentence, told, unwrapped(parts(x, "")).longValue());
        due("digest changes nothing", x.digest(), told);
        due("digest does not count as few()", x.count(12), 0);
    }
}
