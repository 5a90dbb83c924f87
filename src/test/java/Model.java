import java.util.ArrayList;
import java.util.List;
import java.util.regex.Matcher;
import java.util.regex.Pattern;

/**
 * The document once more, as plainly as can be and by other ways than the class goes: texts by
 * patterns, searches by trying all, tides as values. Only for tests.
 */
final class Model {
    private static final int NONE = -1, UNKNOWN = -101, OUTSIDE = -102, STATE = -103, FULL = -104;
    private static final String KINDS = "arslf";

    private record Boat(int sand, int depth) { }

    private record Asker(char kind, int manners) { }

    private record Seen(int asker, int tide) { }

    private record Sea(int tide, int grudge, boolean stays) {
        Sea asked(Asker by) {
            int much = Math.max(manners(by) - grudge, 0);
            return switch (by.kind) {
                case 'a' -> higher(much, 0);
                case 'r' -> higher((int) Math.floor(much / 3.0), 1);
                case 's' -> higher(much + much, 1);
                case 'f' -> higher(0, 2);
                default -> new Sea(tide, grudge, true);
            };
        }

        private static int manners(Asker by) {
            return by.manners;
        }

        Sea thanked() {
            return new Sea(stays ? tide : Math.max(tide - 3, 0), Math.max(grudge - 1, 0), false);
        }

        private Sea higher(int much, int worse) {
            return new Sea(Math.min(tide + much, 20), Math.min(grudge + worse, 9), stays);
        }
    }

    private record All(List<Integer> heights, List<Boat> boats, List<Asker> askers, Sea sea,
            int times, List<Seen> seen) {
        All copy() {
            return new All(new ArrayList<>(heights), new ArrayList<>(boats),
                    new ArrayList<>(askers), sea, times, new ArrayList<>(seen));
        }

        All with(Sea other) {
            return new All(heights, boats, askers, other, times + 1, seen);
        }
    }

    private String page = "";
    private All now = new All(List.of(), List.of(), List.of(), new Sea(0, 0, false), 0,
            new ArrayList<>());
    private All kept = null;
    private int shores = 0;
    private int fews = 0;

    int letter(int code) {
        if (code < 1 || code > 126) {
            return OUTSIDE;
        }
        if (page.length() == 34) {
            return FULL;
        }
        page += (char) code;
        return page.length();
    }

    int blank() {
        int had = page.length();
        page = "";
        return had;
    }

    private static Matcher matcher(int sands, String text) {
        String boat = "[0-" + (sands - 1) + "][0-9]";
        String asker = "[arslf][0-9]";
        return Pattern.compile("[0-9]{" + sands + "};" + boat + "(," + boat + "){0,2};"
                + asker + "(," + asker + "){1,4}").matcher(text);
    }

    int fault() {
        for (int i = 0; i < page.length(); i++) {
            boolean could = false;
            for (int sands = 3; sands <= 8; sands++) {
                Matcher m = matcher(sands, page.substring(0, i + 1));
                could |= m.matches() || m.hitEnd();
            }
            if (!could) {
                return i;
            }
        }
        return page.length();
    }

    int shore() {
        boolean is = false;
        for (int sands = 3; sands <= 8; sands++) {
            is |= matcher(sands, page).matches();
        }
        if (!is) {
            return STATE;
        }
        String[] parts = page.split(";");
        now = new All(new ArrayList<>(), new ArrayList<>(), new ArrayList<>(),
                new Sea(0, 0, false), 0, new ArrayList<>());
        for (String high : parts[0].split("")) {
            now.heights.add(Integer.valueOf(high));
        }
        for (String boat : parts[1].split(",")) {
            now.boats.add(new Boat(boat.charAt(0) - '0', boat.charAt(1) - '0'));
        }
        for (String asker : parts[2].split(",")) {
            now.askers.add(new Asker(asker.charAt(0), asker.charAt(1) - '0'));
        }
        page = "";
        kept = null;
        shores++;
        return now.askers.size();
    }

    private static boolean names(List<?> list, int number) {
        return number >= 0 && number < list.size();
    }

    private boolean reaches(int sand, int tide) {
        return now.heights.subList(0, sand + 1).stream().allMatch(high -> high < tide);
    }

    private boolean floats(int boat, int tide) {
        Boat it = now.boats.get(boat);
        return reaches(it.sand, tide) && tide - now.heights.get(it.sand) >= it.depth;
    }

    private int afloat(int tide) {
        int many = 0;
        for (int i = 0; i < now.boats.size(); i++) {
            many += floats(i, tide) ? 1 : 0;
        }
        return many;
    }

    int sand(int sand, int what) {
        if (!names(now.heights, sand)) {
            return UNKNOWN;
        }
        int bits = 0;
        for (int i = 0; i < now.boats.size(); i++) {
            bits += now.boats.get(i).sand == sand ? (int) Math.pow(2, i) : 0;
        }
        return switch (what) {
            case 0 -> now.heights.get(sand);
            case 1 -> reaches(sand, now.sea.tide) ? 1 : 0;
            case 2 -> bits;
            default -> OUTSIDE;
        };
    }

    int boat(int boat, int what) {
        if (!names(now.boats, boat)) {
            return UNKNOWN;
        }
        int least = 0;
        while (!floats(boat, least)) {
            least++;
        }
        return switch (what) {
            case 0 -> now.boats.get(boat).sand;
            case 1 -> now.boats.get(boat).depth;
            case 2 -> floats(boat, now.sea.tide) ? 1 : 0;
            case 3 -> least;
            default -> OUTSIDE;
        };
    }

    private int tideBy(int asker, int manners) {
        return now.sea.asked(new Asker(now.askers.get(asker).kind, manners)).tide;
    }

    private List<Integer> canHave(int asker) {
        List<Integer> all = new ArrayList<>();
        for (int manners = 0; manners <= 9; manners++) {
            int tide = tideBy(asker, manners);
            if (now.seen.stream().allMatch(s -> s.asker != asker || s.tide == tide)) {
                all.add(manners);
            }
        }
        return all;
    }

    int asker(int asker, int what) {
        if (!names(now.askers, asker)) {
            return UNKNOWN;
        }
        Asker he = now.askers.get(asker);
        return switch (what) {
            case 0 -> KINDS.indexOf(he.kind);
            case 1 -> he.manners;
            case 2 -> now.sea.asked(he).tide;
            case 3 -> now.sea.asked(he).grudge;
            case 4 -> canHave(asker).stream().mapToInt(m -> 1 << m).sum();
            case 5 -> (int) canHave(asker).stream().map(m -> tideBy(asker, m)).distinct().count();
            default -> OUTSIDE;
        };
    }

    int as(int asker, int kind) {
        if (!names(now.askers, asker)) {
            return UNKNOWN;
        }
        if (kind < 0 || kind > 4) {
            return OUTSIDE;
        }
        String such = List.of("arslf", "rf", "s", "l", "f").get(kind);
        return such.indexOf(now.askers.get(asker).kind) >= 0 ? asker : NONE;
    }

    int ask(int asker) {
        if (!names(now.askers, asker)) {
            return UNKNOWN;
        }
        if (now.times == 999) {
            return FULL;
        }
        now = now.with(now.sea.asked(now.askers.get(asker)));
        return now.sea.tide;
    }

    int thank() {
        if (now.askers.isEmpty()) {
            return STATE;
        }
        if (now.times == 999) {
            return FULL;
        }
        now = now.with(now.sea.thanked());
        return now.sea.tide;
    }

    int draw(int boat, int sand) {
        if (!names(now.boats, boat) || !names(now.heights, sand)) {
            return UNKNOWN;
        }
        return now.boats.set(boat, new Boat(sand, now.boats.get(boat).depth)).sand;
    }

    int heap(int sand, int high) {
        if (!names(now.heights, sand)) {
            return UNKNOWN;
        }
        return high < 0 || high > 9 ? OUTSIDE : now.heights.set(sand, high);
    }

    int teach(int asker, int kind, int manners) {
        if (!names(now.askers, asker)) {
            return UNKNOWN;
        }
        if (kind < 0 || kind > 4 || manners < 0 || manners > 9) {
            return OUTSIDE;
        }
        Asker was = now.askers.set(asker, new Asker(KINDS.charAt(kind), manners));
        return KINDS.indexOf(was.kind);
    }

    private void lines(List<Integer> line, List<List<Integer>> into) {
        if (line.size() == now.askers.size()) {
            into.add(new ArrayList<>(line));
        }
        for (int i = 0; i < now.askers.size(); i++) {
            if (!line.contains(i)) {
                line.add(i);
                lines(line, into);
                line.remove(line.size() - 1);
            }
        }
    }

    // The parts of worth stand so far apart that one number tells which line is best.
    private int worth(List<Integer> line) {
        Sea behind = seaBehind(line);
        return afloat(behind.tide) * 10000 + (9 - behind.grudge) * 100 + behind.tide;
    }

    private Sea seaBehind(List<Integer> line) {
        Sea sea = now.sea;
        for (int who : line) {
            sea = who == 9 ? sea.thanked() : sea.asked(now.askers.get(who));
        }
        return sea;
    }

    int order(int what) {
        if (!List.of(0, 1, 2, 10, 11, 12, 13, 14).contains(what)) {
            return OUTSIDE;
        }
        if (now.askers.isEmpty()) {
            return STATE;
        }
        List<List<Integer>> all = new ArrayList<>();
        lines(new ArrayList<>(), all);
        int most = all.stream().mapToInt(this::worth).max().getAsInt();
        List<Integer> best = all.stream().filter(l -> worth(l) == most).findFirst().get();
        Sea behind = seaBehind(best);
        return switch (what) {
            case 0 -> afloat(behind.tide);
            case 1 -> behind.grudge;
            case 2 -> behind.tide;
            default -> what - 10 < best.size() ? best.get(what - 10) : NONE;
        };
    }

    private List<Integer> fewest(int boat, int length, List<Integer> line) {
        if (length == 0) {
            return floats(boat, seaBehind(line).tide) ? line : null;
        }
        for (int who = 0; who <= 9; who++) {
            if (who < now.askers.size() || who == 9) {
                List<Integer> longer = new ArrayList<>(line);
                longer.add(who);
                List<Integer> found = fewest(boat, length - 1, longer);
                if (found != null) {
                    return found;
                }
            }
        }
        return null;
    }

    int few(int boat, int what) {
        if (!names(now.boats, boat)) {
            return UNKNOWN;
        }
        if (!List.of(0, 10, 11, 12, 13, 14).contains(what)) {
            return OUTSIDE;
        }
        if (fews == 12) {
            return STATE;
        }
        fews++;
        for (int length = 0; length <= 5; length++) {
            List<Integer> line = fewest(boat, length, List.of());
            if (line != null) {
                return what == 0 ? length : what - 10 < length ? line.get(what - 10) : NONE;
            }
        }
        return NONE;
    }

    int good() {
        if (now.askers.isEmpty()) {
            return STATE;
        }
        for (int all = 0; ; all++) {
            for (int thanks = 0; thanks <= all; thanks++) {
                Sea sea = now.sea;
                for (int i = 0; i < all; i++) {
                    sea = i < thanks ? sea.thanked() : sea.asked(new Asker('a', 9));
                }
                if (sea.grudge == 0 && sea.tide >= now.sea.tide) {
                    return all;
                }
            }
        }
    }

    private long parts(int boat, int tenths, int asker, Sea sea) {
        if (asker == now.askers.size()) {
            return floats(boat, sea.tide) ? 1 : 0;
        }
        return tenths * parts(boat, tenths, asker + 1, sea.asked(now.askers.get(asker)))
                + (10 - tenths) * parts(boat, tenths, asker + 1, sea);
    }

    int odds(int boat, int tenths, int what) {
        if (!names(now.boats, boat)) {
            return UNKNOWN;
        }
        if (tenths < 0 || tenths > 10 || what != 0 && what != 1) {
            return OUTSIDE;
        }
        long above = parts(boat, tenths, 0, now.sea);
        long below = Math.round(Math.pow(10, now.askers.size()));
        for (int by : new int[] {2, 5}) {
            while (above % by == 0 && below % by == 0) {
                above /= by;
                below /= by;
            }
        }
        return (int) (what == 0 ? above : below);
    }

    int see(int asker, int tide) {
        if (!names(now.askers, asker)) {
            return UNKNOWN;
        }
        if (tide < 0 || tide > 20) {
            return OUTSIDE;
        }
        if (now.seen.size() == 6) {
            return FULL;
        }
        now.seen.add(new Seen(asker, tide));
        return now.seen.size();
    }

    int forget() {
        int was = now.seen.size();
        now.seen.clear();
        return was;
    }

    int send() {
        if (now.askers.isEmpty()) {
            return STATE;
        }
        int whom = NONE;
        long fewest = Long.MAX_VALUE;
        for (int i = now.askers.size() - 1; i >= 0; i--) {
            int he = i;
            List<Integer> tides = canHave(i).stream().map(m -> tideBy(he, m)).toList();
            long worst = tides.stream()
                    .mapToLong(t -> tides.stream().filter(t::equals).count()).max().orElse(99);
            if (worst < 99 && worst <= fewest) {
                whom = i;
                fewest = worst;
            }
        }
        return whom;
    }

    int seasons(int times, int seed, int what) {
        if (times < 1 || times > 60 || seed < 0 || what < 0 || what > 2) {
            return OUTSIDE;
        }
        if (now.askers.isEmpty()) {
            return STATE;
        }
        long next = seed;
        Sea sea = now.sea;
        int all = 0;
        for (int i = 0; i < times; i++) {
            next = (next * 1103515245L + 12345L) % 2147483648L;
            if (next / 65536 % 4 == 0) {
                sea = sea.thanked();
            } else {
                next = (next * 1103515245L + 12345L) % 2147483648L;
                sea = sea.asked(now.askers.get((int) (next / 65536 % now.askers.size())));
            }
            all += afloat(sea.tide);
        }
        return what == 0 ? all : what == 1 ? sea.tide : (int) next;
    }

    int image() {
        if (now.askers.isEmpty()) {
            return STATE;
        }
        kept = now.copy();
        return now.times;
    }

    int restore() {
        if (kept == null) {
            return STATE;
        }
        now = kept.copy();
        return now.times;
    }

    int count(int what) {
        int reached = 0;
        for (int i = 0; i < now.heights.size(); i++) {
            reached += reaches(i, now.sea.tide) ? 1 : 0;
        }
        List<Integer> all = List.of(now.heights.size(), now.boats.size(), now.askers.size(),
                now.sea.tide, now.sea.grudge, now.sea.stays ? 1 : 0);
        List<Integer> more = List.of(afloat(now.sea.tide), reached, now.times, now.seen.size(),
                page.length(), shores, fews);
        return names(all, what) ? all.get(what)
                : names(more, what - 6) ? more.get(what - 6) : OUTSIDE;
    }

    long digest() {
        List<Integer> parts = new ArrayList<>();
        for (int i = 0; i < now.heights.size(); i++) {
            for (int what = 0; what <= 2; what++) {
                parts.add(sand(i, what));
            }
        }
        for (int i = 0; i < now.boats.size(); i++) {
            for (int what = 0; what <= 3; what++) {
                parts.add(boat(i, what));
            }
            parts.add(odds(i, 5, 0));
            parts.add(odds(i, 5, 1));
        }
        for (int i = 0; i < now.askers.size(); i++) {
            for (int what = 0; what <= 5; what++) {
                parts.add(asker(i, what));
            }
        }
        if (!now.askers.isEmpty()) {
            for (int what : new int[] {0, 1, 2, 10, 11, 12, 13, 14}) {
                parts.add(order(what));
            }
            parts.add(good());
            parts.add(send());
        }
        page.chars().forEach(parts::add);
        for (int what = 0; what <= 12; what++) {
            parts.add(count(what));
        }
        return parts.stream().mapToLong(Integer::longValue).reduce(1277L, (h, n) -> 31 * h + n);
    }
}
