/**
 * Every sea there can be (tide 0 to 20, grudge 0 to 9, staying or not), brought about on a shore
 * by askings alone: what each kind of each manners does to it, what thanks do, how it is made
 * good, and which manners can be seen by it. So no bound of the tide or of grudge is left out.
 */
public final class SeaTest {
    private static final int ASKER = 0, RUDE = 1, SHOUTER = 2, LOVER = 3, FOREIGNER = 4;
    private static final int TOOL = 0, ONE = 1;
    private static final Check CHECK = new Check();

    public static void main(String[] args) {
        for (int tide = 0; tide <= 20; tide++) {
            for (int grudge = 0; grudge <= 9; grudge++) {
                for (int stays = 0; stays <= 1; stays++) {
                    asking(tide, grudge, stays);
                    thanking(tide, grudge, stays);
                    good(tide, grudge, stays);
                    seeing(tide, grudge, stays);
                }
            }
        }
        CHECK.end("SeaTest");
    }

    private static TideAsked sea(int tide, int grudge, int stays) {
        TideAsked x = Check.on("000;00;a0,a0");
        for (int left = tide; left > 0; left -= 9) {
            x.teach(TOOL, ASKER, Math.min(left, 9));
            x.ask(TOOL);
        }
        for (int left = grudge; left > 0; left -= 2) {
            x.teach(TOOL, left == 1 ? RUDE : FOREIGNER, 0);
            x.ask(TOOL);
        }
        if (stays == 1) {
            x.teach(TOOL, LOVER, 0);
            x.ask(TOOL);
        }
        is("brought about", x, tide, grudge, stays);
        return x;
    }

    private static void is(String name, TideAsked x, int tide, int grudge, int stays) {
        CHECK.due(name + ", tide", x.count(3), tide);
        CHECK.due(name + ", grudge", x.count(4), grudge);
        CHECK.due(name + ", stays", x.count(5), stays);
    }

    private static String named(int tide, int grudge, int stays) {
        return "at " + tide + " by " + grudge + (stays == 1 ? ", it stays" : "");
    }

    // As the words have it: so much higher by kind, and so much more grudge behind it.
    private static int higher(int kind, int manners, int grudge) {
        int much = manners > grudge ? manners - grudge : 0;
        int third = much == 9 ? 3 : much >= 6 ? 2 : much >= 3 ? 1 : 0;
        int[] byKind = {much, third, much + much, 0, 0};
        return byKind[kind];
    }

    private static void asking(int tide, int grudge, int stays) {
        int[] worse = {0, 1, 1, 0, 2};
        TideAsked x = sea(tide, grudge, stays);
        x.image();
        for (int kind = ASKER; kind <= FOREIGNER; kind++) {
            for (int manners = 0; manners <= 9; manners++) {
                String name = named(tide, grudge, stays) + " kind " + kind + " of " + manners;
                int high = Math.min(20, tide + higher(kind, manners, grudge));
                int much = Math.min(9, grudge + worse[kind]);
                x.teach(ONE, kind, manners);
                CHECK.due(name + " would, tide", x.asker(ONE, 2), high);
                CHECK.due(name + " would, grudge", x.asker(ONE, 3), much);
                CHECK.due(name + " asks", x.ask(ONE), high);
                is(name, x, high, much, kind == LOVER ? 1 : stays);
                x.restore();
            }
        }
    }

    private static void thanking(int tide, int grudge, int stays) {
        TideAsked x = sea(tide, grudge, stays);
        String name = named(tide, grudge, stays) + " thanks";
        int low = stays == 1 ? tide : tide < 3 ? 0 : tide - 3;
        CHECK.due(name, x.thank(), low);
        is(name, x, low, grudge == 0 ? 0 : grudge - 1, 0);
    }

    // The fewest by doing it: each share of thanks, then askings with 9 manners.
    private static void good(int tide, int grudge, int stays) {
        int told = sea(tide, grudge, stays).good();
        int fewest = 0;
        while (fewest <= 20 && !canBeGoodBy(fewest, tide, grudge, stays)) {
            fewest++;
        }
        CHECK.due(named(tide, grudge, stays) + " good", told, fewest);
    }

    private static boolean canBeGoodBy(int times, int tide, int grudge, int stays) {
        TideAsked x = sea(tide, grudge, stays);
        x.teach(ONE, ASKER, 9);
        x.image();
        for (int thanks = 0; thanks <= times; thanks++) {
            for (int i = 0; i < times; i++) {
                if (i < thanks) {
                    x.thank();
                } else {
                    x.ask(ONE);
                }
            }
            if (x.count(4) == 0 && x.count(3) >= tide) {
                return true;
            }
            x.restore();
        }
        return false;
    }

    private static void seeing(int tide, int grudge, int stays) {
        for (int kind = ASKER; kind <= FOREIGNER; kind++) {
            TideAsked x = sea(tide, grudge, stays);
            x.teach(ONE, kind, 0);
            int seenTides = 0;
            for (int high = 0; high <= 20; high++) {
                int bits = 0;
                for (int manners = 0; manners <= 9; manners++) {
                    boolean so = Math.min(20, tide + higher(kind, manners, grudge)) == high;
                    bits += so ? 1 << manners : 0;
                }
                seenTides += bits == 0 ? 0 : 1;
                String name = named(tide, grudge, stays) + " kind " + kind + " seen " + high;
                CHECK.due(name, x.see(ONE, high), 1);
                CHECK.due(name + ", can have", x.asker(ONE, 4), bits);
                CHECK.due(name + ", gain", x.asker(ONE, 5), bits == 0 ? 0 : 1);
                CHECK.due(name + ", of the other nothing is seen", x.asker(TOOL, 4), 1023);
                CHECK.due(name + ", forgotten", x.forget(), 1);
            }
            CHECK.due("gain, nothing seen", x.asker(ONE, 5), seenTides);
            CHECK.due("can have, nothing seen", x.asker(ONE, 4), 1023);
        }
    }
}
