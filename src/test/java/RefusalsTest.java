import java.util.ArrayList;
import java.util.List;
import java.util.function.Supplier;

/**
 * Every refusal that the document names: just outside its bound and just inside, which of several
 * comes first, and that it changes nothing. For the last a twin lives the same life without the
 * refused call, and both must tell the same tale behind it.
 */
public final class RefusalsTest {
    private static final int NONE = -1, UNKNOWN = -101, OUTSIDE = -102, STATE = -103, FULL = -104;
    private static final int LEAST = Integer.MIN_VALUE, MOST = Integer.MAX_VALUE;
    private static final Check CHECK = new Check();

    private interface Call {
        long on(TideAsked x);
    }

    public static void main(String[] args) {
        letter();
        shore();
        sand();
        boat();
        asker();
        as();
        ask();
        thank();
        draw();
        heap();
        teach();
        order();
        few();
        good();
        odds();
        see();
        send();
        seasons();
        image();
        restore();
        count();
        neverRefused();
        CHECK.end("RefusalsTest");
    }

    // ---- the lives in which a call is refused

    private static TideAsked bare() {
        TideAsked x = new TideAsked();
        Check.write(x, "12");
        return x;
    }

    /** Four sands, three boats, five askers; asked, seen, an image behind it, letters begun. */
    private static TideAsked lived() {
        TideAsked x = Check.on("3051;11,36,10;a4,r9,s2,l0,f5");
        x.ask(0);
        x.ask(1);
        x.see(1, 9);
        x.image();
        x.ask(3);
        x.ask(2);
        x.see(0, 8);
        x.few(0, 0);
        Check.write(x, "000;");
        return x;
    }

    private static TideAsked fullPage() {
        TideAsked x = lived();
        Check.write(x, "000000000000000000000000000000");
        return x;
    }

    private static TideAsked allSeen() {
        TideAsked x = lived();
        for (int i = 0; i < 4; i++) {
            x.see(i, i);
        }
        return x;
    }

    private static TideAsked fewDone() {
        TideAsked x = lived();
        for (int i = 1; i < 12; i++) {
            x.few(i % 3, 0);
        }
        return x;
    }

    private static TideAsked noImage() {
        TideAsked x = Check.on("000;00;a9,s1");
        x.ask(0);
        return x;
    }

    private static TideAsked otherShore() {
        TideAsked x = lived();
        x.blank();
        Check.write(x, "000;00;a9,s1");
        x.shore();
        x.ask(0);
        return x;
    }

    private static TideAsked page(String text) {
        TideAsked x = lived();
        x.blank();
        Check.write(x, text);
        return x;
    }

    // ---- how a refusal is looked at

    private static void refused(String name, Supplier<TideAsked> life, Call call, int want) {
        TideAsked x = life.get();
        CHECK.due(name, call.on(x), want);
        CHECK.due(name + ", once more", call.on(x), want);
        List<Long> told = tale(x);
        List<Long> due = tale(life.get());
        for (int i = 0; i < due.size(); i++) {
            CHECK.due(name + ": behind it, at " + i, told.get(i), due.get(i));
        }
    }

    private static void taken(String name, Supplier<TideAsked> life, Call call, long want) {
        CHECK.due(name, call.on(life.get()), want);
    }

    private static List<Long> tale(TideAsked x) {
        List<Long> all = new ArrayList<>();
        Call[] calls = {TideAsked::digest, TideAsked::fault, y -> y.seasons(60, 7, 0),
            TideAsked::restore, TideAsked::digest, TideAsked::thank, y -> y.ask(0),
            y -> y.see(0, 0), TideAsked::digest, TideAsked::forget, y -> y.few(0, 0),
            y -> y.few(0, 10), y -> y.count(12), TideAsked::image, y -> y.draw(0, 0),
            y -> y.heap(0, 5), y -> y.teach(0, 2, 3), TideAsked::digest, TideAsked::restore,
            TideAsked::digest, TideAsked::shore, TideAsked::blank, TideAsked::restore,
            TideAsked::digest};
        for (Call call : calls) {
            all.add(call.on(x));
        }
        return all;
    }

    /** No number but 0 to the last names one. */
    private static void names(String name, int last, Numbered call) {
        for (int number : new int[] {LEAST, -1, last + 1, MOST}) {
            refused(name + " " + number, RefusalsTest::lived, x -> call.on(x, number), UNKNOWN);
        }
        refused(name + ", no shore", RefusalsTest::bare, x -> call.on(x, 0), UNKNOWN);
        for (int number = 0; number <= last; number++) {
            int it = number;
            CHECK.due(name + " " + it, call.on(lived(), it) >= NONE ? 1 : 0, 1);
        }
    }

    /** No number but these is as told. */
    private static void bounds(String name, int least, int most, Numbered call) {
        for (int number : new int[] {LEAST, least - 1, most + 1, MOST}) {
            refused(name + " " + number, RefusalsTest::lived, x -> call.on(x, number), OUTSIDE);
        }
        for (int number = least; number <= most; number++) {
            CHECK.due(name + " " + number, call.on(lived(), number) >= NONE ? 1 : 0, 1);
        }
    }

    private interface Numbered {
        long on(TideAsked x, int number);
    }

    // ---- promise by promise

    private static void letter() {
        bounds("letter", 1, 126, TideAsked::letter);
        refused("letter above 34", RefusalsTest::fullPage, x -> x.letter('0'), FULL);
        refused("letter above 34, outside first", RefusalsTest::fullPage, x -> x.letter(127), OUTSIDE);
        refused("letter above 34, outside first", RefusalsTest::fullPage, x -> x.letter(0), OUTSIDE);
        taken("the 34th letter", () -> page("000000000000000000000000000000000"), x -> x.letter(1), 34);
        taken("a letter without a shore", RefusalsTest::bare, x -> x.letter(126), 3);
    }

    private static void shore() {
        String[] none = {"", "0", "000;", "000;00", "000;00;", "000;00;a0", "000;00;a0,",
            "000;00;a0,a", "00;00;a0,a0", "000000000;00;a0,a0", "000;30;a0,a0", "000;;a0,a0",
            "000;00,00,00,00;a0,a0", "000;00;a0,a0,a0,a0,a0,a0", "000;00;b0,a0", "000;00;a0,a0,",
            "000;00;a0,a0;", "000;00;a0,a0 ", " 000;00;a0,a0", "0000000000000000000000000000000000"};
        for (String text : none) {
            refused("shore of " + text, () -> page(text), TideAsked::shore, STATE);
        }
        refused("shore, none yet", RefusalsTest::bare, TideAsked::shore, STATE);
        taken("the shortest shore", () -> page("000;00;a0,a0"), TideAsked::shore, 2);
        taken("the longest shore", () -> page("99999999;79,79,79;f9,l9,s9,r9,a9"), TideAsked::shore, 5);
    }

    private static void sand() {
        names("sand", 3, (x, sand) -> x.sand(sand, 0));
        bounds("sand, what", 0, 2, (x, what) -> x.sand(3, what));
        refused("sand, unknown first", RefusalsTest::lived, x -> x.sand(4, 3), UNKNOWN);
        refused("sand, unknown first", RefusalsTest::bare, x -> x.sand(0, 3), UNKNOWN);
    }

    private static void boat() {
        names("boat", 2, (x, boat) -> x.boat(boat, 0));
        bounds("boat, what", 0, 3, (x, what) -> x.boat(2, what));
        refused("boat, unknown first", RefusalsTest::lived, x -> x.boat(3, 4), UNKNOWN);
        refused("boat, unknown first", RefusalsTest::bare, x -> x.boat(0, -1), UNKNOWN);
    }

    private static void asker() {
        names("asker", 4, (x, asker) -> x.asker(asker, 0));
        bounds("asker, what", 0, 5, (x, what) -> x.asker(4, what));
        refused("asker, unknown first", RefusalsTest::lived, x -> x.asker(5, 6), UNKNOWN);
        refused("asker, unknown first", RefusalsTest::bare, x -> x.asker(0, -1), UNKNOWN);
    }

    private static void as() {
        names("as", 4, (x, asker) -> x.as(asker, 0));
        bounds("as, kind", 0, 4, (x, kind) -> x.as(0, kind));
        refused("as, unknown first", RefusalsTest::lived, x -> x.as(5, 5), UNKNOWN);
        refused("as, unknown first", RefusalsTest::bare, x -> x.as(0, -1), UNKNOWN);
    }

    private static void ask() {
        names("ask", 4, TideAsked::ask);
    }

    private static void thank() {
        refused("thank, no shore", RefusalsTest::bare, TideAsked::thank, STATE);
        refused("thank, nothing at all", TideAsked::new, TideAsked::thank, STATE);
    }

    private static void draw() {
        names("draw", 2, (x, boat) -> x.draw(boat, 0));
        names("draw to", 3, (x, sand) -> x.draw(0, sand));
        refused("draw, neither", RefusalsTest::lived, x -> x.draw(3, 4), UNKNOWN);
    }

    private static void heap() {
        names("heap", 3, (x, sand) -> x.heap(sand, 1));
        bounds("heap, high", 0, 9, (x, high) -> x.heap(3, high));
        refused("heap, unknown first", RefusalsTest::lived, x -> x.heap(4, 10), UNKNOWN);
        refused("heap, unknown first", RefusalsTest::bare, x -> x.heap(0, -1), UNKNOWN);
    }

    private static void teach() {
        names("teach", 4, (x, asker) -> x.teach(asker, 2, 1));
        bounds("teach, kind", 0, 4, (x, kind) -> x.teach(1, kind, 1));
        bounds("teach, manners", 0, 9, (x, manners) -> x.teach(1, 2, manners));
        refused("teach, unknown first", RefusalsTest::lived, x -> x.teach(5, 5, 0), UNKNOWN);
        refused("teach, unknown first", RefusalsTest::lived, x -> x.teach(-1, 0, 10), UNKNOWN);
        refused("teach, neither", RefusalsTest::lived, x -> x.teach(0, -1, -1), OUTSIDE);
        refused("teach, unknown first", RefusalsTest::bare, x -> x.teach(0, 5, 10), UNKNOWN);
    }

    private static void order() {
        bounds("order", 0, 2, TideAsked::order);
        bounds("order, who", 10, 14, TideAsked::order);
        for (int what = 3; what <= 9; what++) {
            int it = what;
            refused("order " + it, RefusalsTest::lived, x -> x.order(it), OUTSIDE);
        }
        refused("order, no shore", RefusalsTest::bare, x -> x.order(0), STATE);
        refused("order, who, no shore", RefusalsTest::bare, x -> x.order(14), STATE);
        refused("order, outside first", RefusalsTest::bare, x -> x.order(9), OUTSIDE);
        refused("order, outside first", RefusalsTest::bare, x -> x.order(-1), OUTSIDE);
    }

    private static void few() {
        names("few", 2, (x, boat) -> x.few(boat, 0));
        bounds("few", 0, 0, (x, what) -> x.few(2, what));
        bounds("few, who", 10, 14, (x, what) -> x.few(2, what));
        for (int what = 1; what <= 9; what++) {
            int it = what;
            refused("few " + it, RefusalsTest::lived, x -> x.few(0, it), OUTSIDE);
        }
        refused("few, the 13th", RefusalsTest::fewDone, x -> x.few(0, 0), STATE);
        refused("few, the 13th, who", RefusalsTest::fewDone, x -> x.few(2, 14), STATE);
        refused("few, unknown first", RefusalsTest::lived, x -> x.few(3, 1), UNKNOWN);
        refused("few, unknown ahead of state", RefusalsTest::fewDone, x -> x.few(3, 0), UNKNOWN);
        refused("few, unknown ahead of all", RefusalsTest::fewDone, x -> x.few(-1, -1), UNKNOWN);
        refused("few, outside ahead of state", RefusalsTest::fewDone, x -> x.few(0, 15), OUTSIDE);
    }

    private static void good() {
        refused("good, no shore", RefusalsTest::bare, TideAsked::good, STATE);
        refused("good, nothing at all", TideAsked::new, TideAsked::good, STATE);
    }

    private static void odds() {
        names("odds", 2, (x, boat) -> x.odds(boat, 5, 1));
        bounds("odds, tenths", 0, 10, (x, tenths) -> x.odds(2, tenths, 1));
        bounds("odds, what", 0, 1, (x, what) -> x.odds(2, 5, what));
        refused("odds, unknown first", RefusalsTest::lived, x -> x.odds(3, 11, 0), UNKNOWN);
        refused("odds, unknown first", RefusalsTest::lived, x -> x.odds(3, 5, 2), UNKNOWN);
        refused("odds, neither", RefusalsTest::lived, x -> x.odds(0, -1, -1), OUTSIDE);
        refused("odds, unknown first", RefusalsTest::bare, x -> x.odds(0, 11, 2), UNKNOWN);
    }

    private static void see() {
        names("see", 4, (x, asker) -> x.see(asker, 0));
        bounds("see, tide", 0, 20, (x, tide) -> x.see(4, tide));
        refused("see, unknown first", RefusalsTest::lived, x -> x.see(5, 21), UNKNOWN);
        refused("see the seventh", RefusalsTest::allSeen, x -> x.see(0, 0), FULL);
        refused("see the seventh, seen before", RefusalsTest::allSeen, x -> x.see(1, 9), FULL);
        refused("see, unknown ahead of full", RefusalsTest::allSeen, x -> x.see(5, 0), UNKNOWN);
        refused("see, outside ahead of full", RefusalsTest::allSeen, x -> x.see(0, 21), OUTSIDE);
    }

    private static void send() {
        refused("send, no shore", RefusalsTest::bare, TideAsked::send, STATE);
        refused("send, nothing at all", TideAsked::new, TideAsked::send, STATE);
    }

    private static void seasons() {
        bounds("seasons, times", 1, 60, (x, times) -> x.seasons(times, 5, 0));
        bounds("seasons, what", 0, 2, (x, what) -> x.seasons(5, 5, what));
        for (int seed : new int[] {-1, LEAST}) {
            refused("seasons, seed " + seed, RefusalsTest::lived, x -> x.seasons(5, seed, 0), OUTSIDE);
            refused("seasons, outside first", RefusalsTest::bare, x -> x.seasons(5, seed, 0), OUTSIDE);
        }
        for (int seed : new int[] {0, 1, MOST}) {
            CHECK.due("seasons, seed " + seed, lived().seasons(5, seed, 0) >= 0 ? 1 : 0, 1);
        }
        refused("seasons, no shore", RefusalsTest::bare, x -> x.seasons(1, 0, 0), STATE);
        refused("seasons, outside first", RefusalsTest::bare, x -> x.seasons(0, 0, 0), OUTSIDE);
        refused("seasons, outside first", RefusalsTest::bare, x -> x.seasons(61, 0, 0), OUTSIDE);
        refused("seasons, outside first", RefusalsTest::bare, x -> x.seasons(1, 0, 3), OUTSIDE);
    }

    private static void image() {
        refused("image, no shore", RefusalsTest::bare, TideAsked::image, STATE);
        // A refused image is none: there is nothing to go on from.
        TideAsked x = bare();
        x.image();
        CHECK.due("restore behind a refused image", x.restore(), STATE);
    }

    private static void restore() {
        refused("restore, nothing at all", TideAsked::new, TideAsked::restore, STATE);
        refused("restore, no shore", RefusalsTest::bare, TideAsked::restore, STATE);
        refused("restore, none was kept", RefusalsTest::noImage, TideAsked::restore, STATE);
        refused("restore, another shore", RefusalsTest::otherShore, TideAsked::restore, STATE);
        taken("restore", RefusalsTest::lived, TideAsked::restore, 2);
        sameShoreAgain();
    }

    // Even the same text once more is another shore.
    private static void sameShoreAgain() {
        TideAsked x = noImage();
        x.image();
        Check.write(x, "000;00;a9,s1");
        x.shore();
        CHECK.due("restore, the same text again", x.restore(), STATE);
    }

    private static void count() {
        bounds("count", 0, 12, TideAsked::count);
        refused("count 13, no shore", RefusalsTest::bare, x -> x.count(13), OUTSIDE);
        refused("count -1, no shore", RefusalsTest::bare, x -> x.count(-1), OUTSIDE);
    }

    // For these the document names no refusal, so they answer where there is no shore, too.
    private static void neverRefused() {
        taken("blank, no shore", RefusalsTest::bare, TideAsked::blank, 2);
        taken("fault, no shore", RefusalsTest::bare, TideAsked::fault, 2);
        taken("forget, no shore", RefusalsTest::bare, TideAsked::forget, 0);
        taken("blank, full", RefusalsTest::fullPage, TideAsked::blank, 34);
        taken("fault, full", RefusalsTest::fullPage, TideAsked::fault, 6);
        taken("forget, full", RefusalsTest::allSeen, TideAsked::forget, 6);
        for (int what = 0; what <= 12; what++) {
            int it = what;
            taken("count " + it + ", no shore", RefusalsTest::bare, x -> x.count(it), it == 10 ? 2 : 0);
        }
    }
}
