import java.util.Arrays;

/** The tide that is asked: a shore, who asks and thanks on it, what floats, and what would. */
public final class TideAsked {
    public static final int NONE = -1, UNKNOWN = -101, OUTSIDE = -102, STATE = -103, FULL = -104;

    private static final int ASKER = 0, RUDE = 1, SHOUTER = 2, LOVER = 3, FOREIGNER = 4;
    private static final int MOST_SANDS = 8, MOST_BOATS = 3, MOST_ASKERS = 5;
    private static final int FEWEST_SANDS = 3, FEWEST_ASKERS = 2;
    private static final int MOST_DIGIT = 9, MOST_TIDE = 20, MOST_GRUDGE = 9;
    private static final int MOST_LETTERS = 34, MOST_CODE = 126;
    private static final int MOST_TIMES = 999, MOST_SEEN = 6, MOST_FEWS = 12, MOST_SEASONS = 60;
    private static final int LOWERED = 3, THANKS = 9, MOST_STEPS = 5;

    private final Page page;
    private final Reading reading;
    private final Shore shore;
    private final Shore kept;
    private final Orders orders;
    private final Fewest fewest;
    private final Chances chances;
    private final Guess guess;
    private final Seasons weather;
    private boolean hasImage;
    private int shoresRead;
    private int fewsDone;

    public TideAsked() {
        page = new Page();
        reading = new Reading();
        shore = new Shore();
        kept = new Shore();
        orders = new Orders();
        fewest = new Fewest();
        chances = new Chances();
        guess = new Guess();
        weather = new Seasons();
        hasImage = false;
        shoresRead = 0;
        fewsDone = 0;
    }

    // ---- the shore

    public int letter(int code) {
        if (code < 1 || code > MOST_CODE) {
            return OUTSIDE;
        }
        return page.put(code) ? page.size : FULL;
    }

    public int blank() {
        int had = page.size;
        page.size = 0;
        return had;
    }

    public int fault() {
        return reading.read(page);
    }

    public int shore() {
        if (reading.read(page) < page.size || !reading.isWhole()) {
            return STATE;
        }
        shore.become(reading.draft);
        page.size = 0;
        hasImage = false;
        shoresRead++;
        return shore.askers;
    }

    public int sand(int sand, int what) {
        if (!shore.hasSand(sand)) {
            return UNKNOWN;
        }
        switch (what) {
            case 0:
                return shore.heights[sand];
            case 1:
                return shore.reaches(sand, shore.sea.tide) ? 1 : 0;
            case 2:
                return shore.boatsOn(sand);
            default:
                return OUTSIDE;
        }
    }

    public int boat(int boat, int what) {
        if (!shore.hasBoat(boat)) {
            return UNKNOWN;
        }
        switch (what) {
            case 0:
                return shore.boatSands[boat];
            case 1:
                return shore.depths[boat];
            case 2:
                return shore.sea.tide >= shore.leastTide(boat) ? 1 : 0;
            case 3:
                return shore.leastTide(boat);
            default:
                return OUTSIDE;
        }
    }

    public int asker(int asker, int what) {
        if (!shore.hasAsker(asker)) {
            return UNKNOWN;
        }
        switch (what) {
            case 0:
                return shore.kinds[asker];
            case 1:
                return shore.manners[asker];
            case 2:
                return guess.seaAfter(shore, asker, shore.manners[asker]).tide;
            case 3:
                return guess.seaAfter(shore, asker, shore.manners[asker]).grudge;
            case 4:
                guess.weigh(shore, asker);
                return guess.left;
            case 5:
                guess.weigh(shore, asker);
                return guess.unlikeTides;
            default:
                return OUTSIDE;
        }
    }

    public int as(int asker, int kind) {
        if (!shore.hasAsker(asker)) {
            return UNKNOWN;
        }
        if (!isKind(kind)) {
            return OUTSIDE;
        }
        return isOfKind(shore.kinds[asker], kind) ? asker : NONE;
    }

    // ---- what is done

    public int ask(int asker) {
        if (!shore.hasAsker(asker)) {
            return UNKNOWN;
        }
        if (shore.times >= MOST_TIMES) {
            return FULL;
        }
        shore.letAsk(asker, shore.sea);
        shore.times++;
        return shore.sea.tide;
    }

    public int thank() {
        if (!shore.isThere()) {
            return STATE;
        }
        if (shore.times >= MOST_TIMES) {
            return FULL;
        }
        shore.sea.hearThanks();
        shore.times++;
        return shore.sea.tide;
    }

    public int draw(int boat, int sand) {
        if (!shore.hasBoat(boat) || !shore.hasSand(sand)) {
            return UNKNOWN;
        }
        int was = shore.boatSands[boat];
        shore.boatSands[boat] = sand;
        return was;
    }

    public int heap(int sand, int high) {
        if (!shore.hasSand(sand)) {
            return UNKNOWN;
        }
        if (!isDigit(high)) {
            return OUTSIDE;
        }
        int was = shore.heights[sand];
        shore.heights[sand] = high;
        return was;
    }

    public int teach(int asker, int kind, int manners) {
        if (!shore.hasAsker(asker)) {
            return UNKNOWN;
        }
        if (!isKind(kind) || !isDigit(manners)) {
            return OUTSIDE;
        }
        int was = shore.kinds[asker];
        shore.kinds[asker] = kind;
        shore.manners[asker] = manners;
        return was;
    }

    // ---- what would be

    public int order(int what) {
        if (!(what >= 0 && what <= 2) && !isPlace(what)) {
            return OUTSIDE;
        }
        if (!shore.isThere()) {
            return STATE;
        }
        orders.find(shore);
        return orders.tells(what);
    }

    public int few(int boat, int what) {
        if (!shore.hasBoat(boat)) {
            return UNKNOWN;
        }
        if (what != 0 && !isPlace(what)) {
            return OUTSIDE;
        }
        if (fewsDone >= MOST_FEWS) {
            return STATE;
        }
        fewsDone++;
        fewest.find(shore, boat);
        return fewest.tells(what);
    }

    public int good() {
        if (!shore.isThere()) {
            return STATE;
        }
        return shore.sea.timesToMakeGood();
    }

    public int odds(int boat, int tenths, int what) {
        if (!shore.hasBoat(boat)) {
            return UNKNOWN;
        }
        if (tenths < 0 || tenths > 10 || what < 0 || what > 1) {
            return OUTSIDE;
        }
        chances.find(shore, boat, tenths);
        return what == 0 ? chances.above : chances.below;
    }

    // ---- what is seen

    public int see(int asker, int tide) {
        if (!shore.hasAsker(asker)) {
            return UNKNOWN;
        }
        if (!isTide(tide)) {
            return OUTSIDE;
        }
        return shore.keepSeen(asker, tide) ? shore.seen : FULL;
    }

    public int forget() {
        int was = shore.seen;
        shore.seen = 0;
        return was;
    }

    public int send() {
        if (!shore.isThere()) {
            return STATE;
        }
        return guess.whomToSend(shore);
    }

    public int seasons(int times, int seed, int what) {
        if (times < 1 || times > MOST_SEASONS || seed < 0 || what < 0 || what > 2) {
            return OUTSIDE;
        }
        if (!shore.isThere()) {
            return STATE;
        }
        weather.pass(shore, times, seed);
        switch (what) {
            case 0:
                return weather.floated;
            case 1:
                return weather.sea.tide;
            default:
                return weather.seed;
        }
    }

    // ---- what is told of all

    public int image() {
        if (!shore.isThere()) {
            return STATE;
        }
        kept.become(shore);
        hasImage = true;
        return shore.times;
    }

    public int restore() {
        if (!hasImage) {
            return STATE;
        }
        shore.become(kept);
        return shore.times;
    }

    public int count(int what) {
        switch (what) {
            case 0:
                return shore.sands;
            case 1:
                return shore.boats;
            case 2:
                return shore.askers;
            case 3:
                return shore.sea.tide;
            case 4:
                return shore.sea.grudge;
            case 5:
                return shore.sea.stays ? 1 : 0;
            case 6:
                return shore.boatsAfloat(shore.sea.tide);
            case 7:
                return shore.sandsReached(shore.sea.tide);
            case 8:
                return shore.times;
            case 9:
                return shore.seen;
            case 10:
                return page.size;
            case 11:
                return shoresRead;
            case 12:
                return fewsDone;
            default:
                return OUTSIDE;
        }
    }

    public long digest() {
        long h = mixAskers(mixBoats(mixSands(1277L)));
        if (shore.isThere()) {
            h = mix(mix(mixOrder(h), good()), send());
        }
        for (int i = 0; i < page.size; i++) {
            h = mix(h, page.letters[i]);
        }
        for (int what = 0; what <= 12; what++) {
            h = mix(h, count(what));
        }
        return h;
    }

    private long mixSands(long before) {
        long h = before;
        for (int i = 0; i < shore.sands; i++) {
            for (int what = 0; what <= 2; what++) {
                h = mix(h, sand(i, what));
            }
        }
        return h;
    }

    private long mixBoats(long before) {
        long h = before;
        for (int i = 0; i < shore.boats; i++) {
            for (int what = 0; what <= 3; what++) {
                h = mix(h, boat(i, what));
            }
            chances.find(shore, i, 5);
            h = mix(mix(h, chances.above), chances.below);
        }
        return h;
    }

    private long mixAskers(long before) {
        long h = before;
        for (int i = 0; i < shore.askers; i++) {
            for (int what = 0; what <= 5; what++) {
                h = mix(h, asker(i, what));
            }
        }
        return h;
    }

    // One search serves all eight answers, which order() would search for each anew.
    private long mixOrder(long before) {
        long h = before;
        orders.find(shore);
        for (int what = 0; what <= 2; what++) {
            h = mix(h, orders.tells(what));
        }
        for (int what = 10; what <= 14; what++) {
            h = mix(h, orders.tells(what));
        }
        return h;
    }

    private static long mix(long h, long number) {
        return 31L * h + number;
    }

    private static boolean isDigit(int number) {
        return number >= 0 && number <= MOST_DIGIT;
    }

    private static boolean isKind(int number) {
        return number >= ASKER && number <= FOREIGNER;
    }

    private static boolean isTide(int number) {
        return number >= 0 && number <= MOST_TIDE;
    }

    private static boolean isPlace(int what) {
        return what >= 10 && what < 10 + MOST_ASKERS;
    }

    private static boolean isOfKind(int own, int kind) {
        return kind == ASKER || kind == own || kind == RUDE && own == FOREIGNER;
    }

    /** The letters from which a shore is read. */
    private static final class Page {
        final int[] letters = new int[MOST_LETTERS];
        int size = 0;

        boolean put(int code) {
            if (size < 0 || size >= letters.length) {
                return false;
            }
            letters[size] = code;
            size++;
            return true;
        }
    }

    /** The sea: how high it stands, and how it has taken what it heard. */
    private static final class Sea {
        static final int CODES = (MOST_TIDE + 1) * (MOST_GRUDGE + 1) * 2;

        int tide = 0;
        int grudge = 0;
        boolean stays = false;

        void become(Sea other) {
            tide = other.tide;
            grudge = other.grudge;
            stays = other.stays;
        }

        // A search keeps many seas; as one number each they need no objects.
        int code() {
            return (tide * (MOST_GRUDGE + 1) + grudge) * 2 + (stays ? 1 : 0);
        }

        void becomeCode(int code) {
            int both = code / 2;
            tide = both / (MOST_GRUDGE + 1);
            grudge = both % (MOST_GRUDGE + 1);
            stays = code % 2 == 1;
        }

        void hear(int kind, int manners) {
            int heed = Math.max(0, manners - grudge);
            int rise = 0;
            int offence = 0;
            switch (kind) {
                case RUDE:
                    rise = heed / 3;
                    offence = 1;
                    break;
                case SHOUTER:
                    rise = 2 * heed;
                    offence = 1;
                    break;
                case LOVER:
                    stays = true;
                    break;
                case FOREIGNER:
                    offence = 2;
                    break;
                default:
                    rise = heed;
                    break;
            }
            tide = Math.min(MOST_TIDE, tide + rise);
            grudge = Math.min(MOST_GRUDGE, grudge + offence);
        }

        void hearThanks() {
            if (!stays) {
                tide = Math.max(0, tide - LOWERED);
            }
            stays = false;
            grudge = Math.max(0, grudge - 1);
        }

        // No more thanks than there is grudge: each one more could only lower the tide.
        int timesToMakeGood() {
            int lowering = stays ? Math.max(0, grudge - 1) : grudge;
            int lost = Math.min(tide, lowering * LOWERED);
            int askings = (lost + MOST_DIGIT - 1) / MOST_DIGIT;
            return grudge + askings;
        }
    }

    /** All that an image keeps: sands, boats, askers, the sea before them, what is seen. */
    private static final class Shore {
        final int[] heights = new int[MOST_SANDS];
        final int[] boatSands = new int[MOST_BOATS];
        final int[] depths = new int[MOST_BOATS];
        final int[] kinds = new int[MOST_ASKERS];
        final int[] manners = new int[MOST_ASKERS];
        final int[] seenAskers = new int[MOST_SEEN];
        final int[] seenTides = new int[MOST_SEEN];
        final Sea sea = new Sea();
        int sands = 0;
        int boats = 0;
        int askers = 0;
        int times = 0;
        int seen = 0;

        void become(Shore other) {
            System.arraycopy(other.heights, 0, heights, 0, MOST_SANDS);
            System.arraycopy(other.boatSands, 0, boatSands, 0, MOST_BOATS);
            System.arraycopy(other.depths, 0, depths, 0, MOST_BOATS);
            System.arraycopy(other.kinds, 0, kinds, 0, MOST_ASKERS);
            System.arraycopy(other.manners, 0, manners, 0, MOST_ASKERS);
            System.arraycopy(other.seenAskers, 0, seenAskers, 0, MOST_SEEN);
            System.arraycopy(other.seenTides, 0, seenTides, 0, MOST_SEEN);
            sea.become(other.sea);
            sands = other.sands;
            boats = other.boats;
            askers = other.askers;
            times = other.times;
            seen = other.seen;
        }

        boolean isThere() {
            return askers > 0;
        }

        boolean hasSand(int sand) {
            return sand >= 0 && sand < sands;
        }

        boolean hasBoat(int boat) {
            return boat >= 0 && boat < boats;
        }

        boolean hasAsker(int asker) {
            return asker >= 0 && asker < askers;
        }

        // What would be is asked of a sea of its own, not of the one before this shore.
        void letAsk(int asker, Sea on) {
            if (hasAsker(asker)) {
                on.hear(kinds[asker], manners[asker]);
            }
        }

        boolean reaches(int sand, int tide) {
            for (int i = 0; i <= sand && i < sands; i++) {
                if (heights[i] >= tide) {
                    return false;
                }
            }
            return true;
        }

        int leastTide(int boat) {
            int highest = 0;
            int own = 0;
            for (int i = 0; i <= boatSands[boat] && i < sands; i++) {
                own = heights[i];
                highest = Math.max(highest, own);
            }
            return Math.max(highest + 1, own + depths[boat]);
        }

        int boatsOn(int sand) {
            int bits = 0;
            for (int i = 0; i < boats; i++) {
                if (boatSands[i] == sand) {
                    bits |= 1 << i;
                }
            }
            return bits;
        }

        int boatsAfloat(int tide) {
            int many = 0;
            for (int i = 0; i < boats; i++) {
                if (tide >= leastTide(i)) {
                    many++;
                }
            }
            return many;
        }

        int sandsReached(int tide) {
            int many = 0;
            for (int i = 0; i < sands; i++) {
                if (reaches(i, tide)) {
                    many++;
                }
            }
            return many;
        }

        boolean keepSeen(int asker, int tide) {
            if (seen < 0 || seen >= MOST_SEEN) {
                return false;
            }
            seenAskers[seen] = asker;
            seenTides[seen] = tide;
            seen++;
            return true;
        }

        boolean agreesWithSeen(int asker, int tide) {
            for (int i = 0; i < seen; i++) {
                if (seenAskers[i] == asker && seenTides[i] != tide) {
                    return false;
                }
            }
            return true;
        }
    }

    /** Reads a page letter by letter into a draft, as long as some shore begins so. */
    private static final class Reading {
        static final int IN_SANDS = 0, AT_BOAT = 1, IN_BOAT = 2, BEHIND_BOAT = 3;
        static final int AT_ASKER = 4, IN_ASKER = 5, BEHIND_ASKER = 6;

        final Shore draft = new Shore();
        int place = IN_SANDS;

        /** How many letters were read: all, or those ahead of the first that fits no shore. */
        int read(Page page) {
            draft.sands = 0;
            draft.boats = 0;
            draft.askers = 0;
            place = IN_SANDS;
            for (int i = 0; i < page.size; i++) {
                if (!takes(page.letters[i])) {
                    return i;
                }
            }
            return page.size;
        }

        boolean isWhole() {
            return place == BEHIND_ASKER && draft.askers >= FEWEST_ASKERS;
        }

        private boolean takes(int letter) {
            switch (place) {
                case IN_SANDS:
                    return letter == ';' ? endsSands() : takesSand(letter - '0');
                case AT_BOAT:
                    return takesBoat(letter - '0');
                case IN_BOAT:
                    return takesDepth(letter - '0');
                case BEHIND_BOAT:
                    return letter == ';' ? goesTo(AT_ASKER)
                            : letter == ',' && draft.boats < MOST_BOATS && goesTo(AT_BOAT);
                case AT_ASKER:
                    return takesAsker(kindOf(letter));
                case IN_ASKER:
                    return takesManners(letter - '0');
                default:
                    return letter == ',' && draft.askers < MOST_ASKERS && goesTo(AT_ASKER);
            }
        }

        private boolean goesTo(int next) {
            place = next;
            return true;
        }

        private boolean takesSand(int high) {
            if (!isDigit(high) || draft.sands >= MOST_SANDS) {
                return false;
            }
            draft.heights[draft.sands] = high;
            draft.sands++;
            return true;
        }

        private boolean endsSands() {
            return draft.sands >= FEWEST_SANDS && goesTo(AT_BOAT);
        }

        private boolean takesBoat(int sand) {
            if (!draft.hasSand(sand) || draft.boats >= MOST_BOATS) {
                return false;
            }
            draft.boatSands[draft.boats] = sand;
            return goesTo(IN_BOAT);
        }

        private boolean takesDepth(int depth) {
            if (!isDigit(depth) || draft.boats >= MOST_BOATS) {
                return false;
            }
            draft.depths[draft.boats] = depth;
            draft.boats++;
            return goesTo(BEHIND_BOAT);
        }

        private boolean takesAsker(int kind) {
            if (!isKind(kind) || draft.askers >= MOST_ASKERS) {
                return false;
            }
            draft.kinds[draft.askers] = kind;
            return goesTo(IN_ASKER);
        }

        private boolean takesManners(int manners) {
            if (!isDigit(manners) || draft.askers >= MOST_ASKERS) {
                return false;
            }
            draft.manners[draft.askers] = manners;
            draft.askers++;
            return goesTo(BEHIND_ASKER);
        }

        private static int kindOf(int letter) {
            switch (letter) {
                case 'a':
                    return ASKER;
                case 'r':
                    return RUDE;
                case 's':
                    return SHOUTER;
                case 'l':
                    return LOVER;
                case 'f':
                    return FOREIGNER;
                default:
                    return NONE;
            }
        }
    }

    /** In which order all should ask: every order is tried, the first by numbers first. */
    private static final class Orders {
        static final int MOST_ORDERS = 120;

        final Sea sea = new Sea();
        final int[] line = new int[MOST_ASKERS];
        final int[] best = new int[MOST_ASKERS];
        int askers = 0;
        int bestFloats = NONE;
        int bestGrudge = 0;
        int bestTide = 0;

        void find(Shore shore) {
            askers = shore.askers;
            bestFloats = NONE;
            for (int i = 0; i < MOST_ASKERS; i++) {
                line[i] = i;
            }
            boolean more = true;
            for (int turn = 0; turn < MOST_ORDERS && more; turn++) {
                tryLine(shore);
                more = nextLine();
            }
        }

        int tells(int what) {
            switch (what) {
                case 0:
                    return bestFloats;
                case 1:
                    return bestGrudge;
                case 2:
                    return bestTide;
                default:
                    return what >= 10 && what - 10 < askers ? best[what - 10] : NONE;
            }
        }

        private void tryLine(Shore shore) {
            sea.become(shore.sea);
            for (int i = 0; i < askers; i++) {
                shore.letAsk(line[i], sea);
            }
            int floats = shore.boatsAfloat(sea.tide);
            if (isBetter(floats)) {
                bestFloats = floats;
                bestGrudge = sea.grudge;
                bestTide = sea.tide;
                System.arraycopy(line, 0, best, 0, MOST_ASKERS);
            }
        }

        private boolean isBetter(int floats) {
            if (floats != bestFloats) {
                return floats > bestFloats;
            }
            if (sea.grudge != bestGrudge) {
                return sea.grudge < bestGrudge;
            }
            return sea.tide > bestTide;
        }

        private boolean nextLine() {
            int left = askers - 2;
            while (left >= 0 && line[left] > line[left + 1]) {
                left--;
            }
            if (left < 0) {
                return false;
            }
            int right = askers - 1;
            while (right > left && line[right] < line[left]) {
                right--;
            }
            swap(left, right);
            for (int i = left + 1, j = askers - 1; i < j; i++, j--) {
                swap(i, j);
            }
            return true;
        }

        private void swap(int i, int j) {
            int held = line[i];
            line[i] = line[j];
            line[j] = held;
        }
    }

    /**
     * By how few askings and thanks a boat floats. Each sea is met once, by the first of its
     * shortest ways: the seas stand in the queue by how short, then by numbers.
     */
    private static final class Fewest {
        final Sea sea = new Sea();
        final int[] met = new int[Sea.CODES];
        final int[] queue = new int[Sea.CODES];
        final int[] from = new int[Sea.CODES];
        final int[] by = new int[Sea.CODES];
        final int[] steps = new int[Sea.CODES];
        final int[] way = new int[MOST_STEPS];
        int size = 0;
        int length = NONE;

        void find(Shore shore, int boat) {
            int least = shore.leastTide(boat);
            Arrays.fill(met, 0);
            size = 0;
            length = NONE;
            meet(shore.sea.code(), NONE, NONE);
            for (int at = 0; at < size && at < Sea.CODES; at++) {
                sea.becomeCode(queue[at]);
                if (sea.tide >= least) {
                    trace(at);
                    return;
                }
                if (steps[at] < MOST_STEPS) {
                    goOn(shore, at);
                }
            }
        }

        int tells(int what) {
            if (what == 0) {
                return length;
            }
            int time = what - 10;
            return time >= 0 && time < length && time < MOST_STEPS ? way[time] : NONE;
        }

        private void goOn(Shore shore, int at) {
            for (int i = 0; i < shore.askers; i++) {
                sea.becomeCode(queue[at]);
                shore.letAsk(i, sea);
                meet(sea.code(), at, i);
            }
            sea.becomeCode(queue[at]);
            sea.hearThanks();
            meet(sea.code(), at, THANKS);
        }

        private void meet(int code, int at, int who) {
            if (code < 0 || code >= Sea.CODES || met[code] != 0 || size >= Sea.CODES) {
                return;
            }
            met[code] = 1;
            queue[size] = code;
            from[size] = at;
            by[size] = who;
            steps[size] = at < 0 ? 0 : steps[at] + 1;
            size++;
        }

        private void trace(int end) {
            length = steps[end];
            int at = end;
            for (int i = Math.min(length, MOST_STEPS) - 1; i >= 0 && at >= 0; i--) {
                way[i] = by[at];
                at = from[at];
            }
        }
    }

    /** How likely a boat floats, if each asker comes or not. */
    private static final class Chances {
        final Sea sea = new Sea();
        int above = 0;
        int below = 1;

        void find(Shore shore, int boat, int tenths) {
            int least = shore.leastTide(boat);
            int parts = 0;
            int all = 0;
            for (int comers = 0; comers < 1 << shore.askers; comers++) {
                int weight = weightOf(shore, comers, tenths);
                all += weight;
                if (sea.tide >= least) {
                    parts += weight;
                }
            }
            int common = Math.max(1, greatestCommon(parts, all));
            above = parts / common;
            below = all / common;
        }

        // The sea is left as these comers leave it.
        private int weightOf(Shore shore, int comers, int tenths) {
            int weight = 1;
            sea.become(shore.sea);
            for (int i = 0; i < shore.askers; i++) {
                if ((comers & 1 << i) != 0) {
                    weight *= tenths;
                    shore.letAsk(i, sea);
                } else {
                    weight *= 10 - tenths;
                }
            }
            return weight;
        }

        // Neither number is above 100,000, so 64 turns are more than it can need.
        private static int greatestCommon(int one, int other) {
            int a = one;
            int b = other;
            for (int turn = 0; turn < 64 && b != 0; turn++) {
                int rest = a % b;
                a = b;
                b = rest;
            }
            return a;
        }
    }

    /** Which manners an asker can have, by what is seen, and whom to send to learn most. */
    private static final class Guess {
        final Sea sea = new Sea();
        final int[] falls = new int[MOST_TIDE + 1];
        int left = 0;
        int unlikeTides = 0;
        int leftAtWorst = 0;

        Sea seaAfter(Shore shore, int asker, int manners) {
            sea.become(shore.sea);
            if (shore.hasAsker(asker)) {
                sea.hear(shore.kinds[asker], manners);
            }
            return sea;
        }

        void weigh(Shore shore, int asker) {
            left = 0;
            unlikeTides = 0;
            leftAtWorst = 0;
            Arrays.fill(falls, 0);
            for (int manners = 0; manners <= MOST_DIGIT; manners++) {
                int tide = seaAfter(shore, asker, manners).tide;
                if (isTide(tide) && shore.agreesWithSeen(asker, tide)) {
                    left |= 1 << manners;
                    falls[tide]++;
                    unlikeTides += falls[tide] == 1 ? 1 : 0;
                    leftAtWorst = Math.max(leftAtWorst, falls[tide]);
                }
            }
        }

        int whomToSend(Shore shore) {
            int whom = NONE;
            int fewestLeft = MOST_DIGIT + 2;
            for (int i = 0; i < shore.askers; i++) {
                weigh(shore, i);
                if (leftAtWorst > 0 && leftAtWorst < fewestLeft) {
                    whom = i;
                    fewestLeft = leftAtWorst;
                }
            }
            return whom;
        }
    }

    /** Seasons by a seed, as they would be: on a sea of their own. */
    private static final class Seasons {
        final Sea sea = new Sea();
        int seed = 0;
        int floated = 0;

        void pass(Shore shore, int times, int firstSeed) {
            sea.become(shore.sea);
            seed = firstSeed;
            floated = 0;
            for (int i = 0; i < times; i++) {
                if (next(4) == 0) {
                    sea.hearThanks();
                } else {
                    shore.letAsk(next(shore.askers), sea);
                }
                floated += shore.boatsAfloat(sea.tide);
            }
        }

        private int next(int many) {
            seed = (int) ((1103515245L * seed + 12345L) & 0x7fffffffL);
            return many > 0 ? seed / 65536 % many : 0;
        }
    }
}
