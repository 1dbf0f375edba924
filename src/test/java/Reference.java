import java.util.ArrayList;
import java.util.List;
import java.util.TreeMap;
import java.util.regex.Matcher;
import java.util.regex.Pattern;

/**
 * A second EchoesFirst, slow and plain, made of copies and of trying all: the tests hold the
 * answers of both against each other.
 */
final class Reference {
    static final int BAD = -1, STATE = -2, FULL = -3, NONE = -9, NO = -1000000;
    /** The answer of a call that would take too long to try all for. */
    static final int UNKNOWN = Integer.MIN_VALUE;
    private static final int MOST_STEPS = 300000;
    private static final Pattern TOKEN = Pattern.compile("[a-z]+|[0-9]+|;");

    record Person(int place, int sounds, int from, int to) {
    }

    record Entry(int s, int place, int sound, boolean isHeard) {
    }

    record Deed(int p, int sound, int t, int place) {
        int number() {
            return 10000 * p + 100 * sound + t;
        }
    }

    /** What an IMAGE keeps; the past is the row of moments that undo() goes back to, the oldest first. */
    record Moment(int now, List<Deed> made, List<Integer> places, List<Moment> past) {
    }

    private StringBuilder text = new StringBuilder();
    private int n = 4;
    private int[][] far = atFirst();
    private List<Person> people = new ArrayList<>();
    private List<Entry> log = new ArrayList<>();
    private Moment at = new Moment(0, List.of(), List.of(), List.of());
    private final Moment[] images = new Moment[2];
    private long trace = 0;
    private int steps;

    private static int[][] atFirst() {
        int[][] rows = new int[6][6];
        for (int a = 0; a < 6; a++) {
            for (int b = 0; b < 6; b++) {
                rows[a][b] = a == b ? 1 : 3;
            }
        }
        return rows;
    }

    private static boolean in(int number, int least, int most) {
        return least <= number && number <= most;
    }

    private boolean noPlace(int place) {
        return !in(place, 0, n - 1);
    }

    private boolean noPerson(int p) {
        return !in(p, 0, people.size() - 1);
    }

    int type(int c) {
        if (!in(c, 0, 255)) {
            return BAD;
        }
        if (text.length() == 200) {
            return FULL;
        }
        text.append((char) c);
        return text.length();
    }

    int clear() {
        int had = text.length();
        text = new StringBuilder();
        return had;
    }

    // ---- THE TEXT: all TOKENS first, then ITEM by ITEM

    private static final class Fault extends RuntimeException {
        private static final long serialVersionUID = 1;
        final int place;

        Fault(int place) {
            this.place = place;
        }
    }

    private List<int[]> spans;
    private int nextSpan;
    private String all;

    private List<int[]> spansOf(String whole) {
        List<int[]> found = new ArrayList<>();
        Matcher matcher = TOKEN.matcher(whole);
        int place = 0;
        while (place < whole.length()) {
            if (whole.charAt(place) == ' ') {
                place++;
                continue;
            }
            boolean isToken = matcher.region(place, whole.length()).lookingAt();
            int end = isToken ? matcher.end() : place + 1;
            found.add(new int[] {place, end, isToken ? 1 : 0});
            place = end;
        }
        return found;
    }

    private boolean isOver() {
        return nextSpan == spans.size();
    }

    private int placeOfNext() {
        return isOver() ? all.length() : spans.get(nextSpan)[0];
    }

    private String take() {
        if (isOver()) {
            throw new Fault(all.length());
        }
        int[] span = spans.get(nextSpan);
        if (span[2] == 0) {
            throw new Fault(span[0]);
        }
        nextSpan++;
        return all.substring(span[0], span[1]);
    }

    private int takeNumber(int least, int most) {
        int place = placeOfNext();
        String token = take();
        if (!token.matches("0|[1-9][0-9]?") || !in(Integer.parseInt(token), least, most)) {
            throw new Fault(place);
        }
        return Integer.parseInt(token);
    }

    private void takeStop() {
        int place = placeOfNext();
        if (!take().equals(";")) {
            throw new Fault(place);
        }
    }

    int valley() {
        int newN = 4;
        int[][] newFar = atFirst();
        List<Person> newPeople = new ArrayList<>();
        int items = 0;
        all = text.toString();
        spans = spansOf(all);
        nextSpan = 0;
        try {
            while (!isOver()) {
                int place = placeOfNext();
                String item = take();
                if (item.equals("n") && items == 0) {
                    newN = takeNumber(2, 6);
                    takeStop();
                } else if (item.equals("f")) {
                    int a = takeNumber(0, newN - 1);
                    int b = takeNumber(0, newN - 1);
                    newFar[a][b] = takeNumber(0, 9);
                    newFar[b][a] = newFar[a][b];
                    takeStop();
                } else if (item.equals("p") && newPeople.size() < 6) {
                    newPeople.add(takePerson(newN));
                } else {
                    throw new Fault(place);
                }
                items++;
            }
        } catch (Fault fault) {
            return -10 - fault.place;
        }
        n = newN;
        far = newFar;
        people = newPeople;
        log = new ArrayList<>();
        text = new StringBuilder();
        images[0] = null;
        images[1] = null;
        at = new Moment(0, List.of(), people.stream().map(Person::place).toList(), List.of());
        return items;
    }

    private Person takePerson(int newN) {
        int place = takeNumber(0, newN - 1);
        int from = takeNumber(0, 40);
        int to = takeNumber(from, 40);
        int sounds = 1 << takeNumber(0, 7);
        while (isOver() || all.charAt(placeOfNext()) != ';') {
            int start = placeOfNext();
            int sound = takeNumber(0, 7);
            if ((sounds & 1 << sound) != 0) {
                throw new Fault(start);
            }
            sounds += 1 << sound;
        }
        takeStop();
        return new Person(place, sounds, from, to);
    }

    int far(int a, int b) {
        return noPlace(a) || noPlace(b) ? BAD : far[a][b];
    }

    int person(int p, int what) {
        if (noPerson(p) || !in(what, 0, 3)) {
            return BAD;
        }
        Person one = people.get(p);
        return new int[] {at.places.get(p), one.sounds, one.from, one.to}[what];
    }

    // ---- deeds

    private boolean isHeardBy(Entry entry, Deed deed) {
        return entry.sound == deed.sound && entry.s + far[deed.place][entry.place] == deed.t;
    }

    private boolean canBe(Deed deed) {
        return log.stream().noneMatch(entry -> !entry.isHeard && isHeardBy(entry, deed));
    }

    /** All deeds, whatever THE LOG has, in the order of their numbers. */
    private List<Deed> allDeeds() {
        List<Deed> deeds = new ArrayList<>();
        for (int p = 0; p < people.size(); p++) {
            Person one = people.get(p);
            for (int sound = 0; sound < 8; sound++) {
                for (int t = one.from; t <= one.to && (one.sounds & 1 << sound) != 0; t++) {
                    deeds.add(new Deed(p, sound, t, at.places.get(p)));
                }
            }
        }
        return deeds;
    }

    private int madeBy(Deed deed) {
        int bits = 0;
        for (int i = 0; i < log.size(); i++) {
            bits |= log.get(i).isHeard && isHeardBy(log.get(i), deed) ? 1 << i : 0;
        }
        return bits;
    }

    private int heardBits() {
        int bits = 0;
        for (int i = 0; i < log.size(); i++) {
            bits |= log.get(i).isHeard ? 1 << i : 0;
        }
        return bits;
    }

    private List<Deed> usefulDeeds() {
        return allDeeds().stream().filter(deed -> madeBy(deed) != 0 && canBe(deed)).toList();
    }

    /** All sets of fewest deeds, in the order of their rows; null: trying all takes too long. */
    private List<List<Deed>> fewestSets() {
        List<Deed> useful = usefulDeeds();
        List<List<Deed>> found = new ArrayList<>();
        int together = useful.stream().mapToInt(this::madeBy).reduce(0, (a, b) -> a | b);
        if (together != heardBits()) {
            return found;
        }
        steps = 0;
        for (int size = 0; found.isEmpty() && steps <= MOST_STEPS; size++) {
            addSets(useful, 0, size, heardBits(), new ArrayList<>(), found);
        }
        return steps > MOST_STEPS ? null : found;
    }

    private void addSets(List<Deed> useful, int from, int size, int rest, List<Deed> row, List<List<Deed>> found) {
        steps++;
        if (steps > MOST_STEPS) {
            return;
        }
        if (size == 0) {
            if (rest == 0) {
                found.add(new ArrayList<>(row));
            }
            return;
        }
        for (int k = from; k <= useful.size() - size; k++) {
            row.add(useful.get(k));
            addSets(useful, k + 1, size - 1, rest & ~madeBy(useful.get(k)), row, found);
            row.remove(row.size() - 1);
        }
    }

    // ---- THE LOG

    int heard(int s, int place, int sound, int is) {
        if (!in(s, 0, 40) || noPlace(place) || !in(sound, 0, 7) || !in(is, 0, 1)) {
            return BAD;
        }
        if (log.size() == 8) {
            return FULL;
        }
        log.add(new Entry(s, place, sound, is == 1));
        return log.size();
    }

    int forget() {
        int had = log.size();
        log = new ArrayList<>();
        return had;
    }

    private int peopleOf(List<Deed> deeds) {
        return deeds.stream().mapToInt(deed -> 1 << deed.p).reduce(0, (a, b) -> a | b);
    }

    int who(int i) {
        if (!in(i, 0, log.size() - 1)) {
            return BAD;
        }
        return peopleOf(usefulDeeds().stream().filter(deed -> (madeBy(deed) & 1 << i) != 0).toList());
    }

    int nobody() {
        for (int i = 0; i < log.size(); i++) {
            if (log.get(i).isHeard && who(i) == 0) {
                return i;
            }
        }
        return NONE;
    }

    int deeds(int what) {
        if (!in(what, 0, 2)) {
            return BAD;
        }
        List<List<Deed>> sets = fewestSets();
        if (sets == null) {
            return UNKNOWN;
        }
        if (sets.isEmpty()) {
            return NONE;
        }
        if (what == 2) {
            return sets.stream().mapToInt(this::peopleOf).reduce(63, (a, b) -> a & b);
        }
        return what == 0 ? sets.get(0).size() : sets.size();
    }

    int first(int i) {
        if (i < 0) {
            return BAD;
        }
        List<List<Deed>> sets = fewestSets();
        if (sets == null) {
            return UNKNOWN;
        }
        if (sets.isEmpty()) {
            return NONE;
        }
        return i < sets.get(0).size() ? sets.get(0).get(i).number() : -5;
    }

    int odds(int p, int i, int what) {
        if (noPerson(p) || !in(i, 0, log.size() - 1) || !log.get(i).isHeard || !in(what, 0, 1)) {
            return BAD;
        }
        List<List<Deed>> sets = fewestSets();
        if (sets == null) {
            return UNKNOWN;
        }
        if (sets.isEmpty()) {
            return NONE;
        }
        long his = sets.stream()
            .filter(set -> set.stream().anyMatch(deed -> deed.p == p && (madeBy(deed) & 1 << i) != 0)).count();
        int lower = sets.size();
        for (int divisor = lower; divisor > 1; divisor--) {
            if (lower % divisor == 0 && his % divisor == 0) {
                lower /= divisor;
                his /= divisor;
            }
        }
        return what == 0 ? (int) his : lower;
    }

    // ---- seconds

    private List<Moment> pastAndThis() {
        List<Moment> past = new ArrayList<>(at.past);
        past.add(new Moment(at.now, at.made, at.places, List.of()));
        return past.size() > 10 ? past.subList(1, 11) : past;
    }

    int second() {
        if (at.now == 60) {
            return STATE;
        }
        at = new Moment(at.now + 1, at.made, at.places, pastAndThis());
        return at.now;
    }

    int makes(int p, int sound) {
        if (noPerson(p) || !in(sound, 0, 7)) {
            return BAD;
        }
        Deed deed = new Deed(p, sound, at.now, at.places.get(p));
        if (!allDeeds().contains(deed)) {
            return STATE;
        }
        if (at.made.size() == 10) {
            return FULL;
        }
        List<Deed> made = new ArrayList<>(at.made);
        made.add(deed);
        at = new Moment(at.now, made, at.places, pastAndThis());
        return made.size();
    }

    int moves(int p, int place) {
        if (noPerson(p) || noPlace(place)) {
            return BAD;
        }
        int was = at.places.get(p);
        if (was == place) {
            return STATE;
        }
        List<Integer> places = new ArrayList<>(at.places);
        places.set(p, place);
        at = new Moment(at.now, at.made, places, pastAndThis());
        return was;
    }

    int undo() {
        int known = at.past.size();
        if (known == 0) {
            return STATE;
        }
        Moment before = at.past.get(known - 1);
        at = new Moment(before.now, before.made, before.places, at.past.subList(0, known - 1));
        return known - 1;
    }

    int done(int i, int what) {
        if (!in(i, 0, at.made.size() - 1) || !in(what, 0, 3)) {
            return BAD;
        }
        Deed deed = at.made.get(i);
        return new int[] {deed.p, deed.sound, deed.t, deed.place}[what];
    }

    private int due() {
        int bits = heardBits();
        for (Deed deed : at.made) {
            bits &= ~madeBy(deed);
        }
        return bits;
    }

    private int past() {
        int bits = due();
        for (Deed deed : usefulDeeds()) {
            bits &= deed.t >= at.now ? ~madeBy(deed) : -1;
        }
        return bits;
    }

    private int lies() {
        int bits = 0;
        for (int k = 0; k < at.made.size(); k++) {
            bits |= canBe(at.made.get(k)) ? 0 : 1 << k;
        }
        return bits;
    }

    int now(int what) {
        return in(what, 0, 2) ? new int[] {due(), past(), lies()}[what] : BAD;
    }

    // ---- listening, playing

    int sit(int place) {
        if (noPlace(place)) {
            return BAD;
        }
        TreeMap<Integer, Integer> leastOf = new TreeMap<>();
        for (int q = n - 1; q >= 0; q--) {
            leastOf.put(far[place][q], q);
        }
        return leastOf.lastEntry().getValue();
    }

    private int beginOf(int p, int sound, int place, int s) {
        return allDeeds().stream().filter(deed -> deed.p == p)
            .filter(deed -> isHeardBy(new Entry(s, place, sound, true), deed))
            .mapToInt(Deed::t).findFirst().orElse(NONE);
    }

    int begin(int p, int sound, int place, int s) {
        if (noPerson(p) || !in(sound, 0, 7) || noPlace(place) || !in(s, 0, 40)) {
            return BAD;
        }
        return beginOf(p, sound, place, s);
    }

    int together(int sound, int place, int some) {
        if (!in(sound, 0, 7) || noPlace(place) || !in(some, 1, (1 << people.size()) - 1)) {
            return BAD;
        }
        for (int s = 0; s <= 40; s++) {
            boolean all = true;
            for (int p = 0; p < people.size(); p++) {
                all &= (some & 1 << p) == 0 || beginOf(p, sound, place, s) != NONE;
            }
            if (all) {
                return s;
            }
        }
        return NONE;
    }

    int played(int row, int place, int s) {
        if (!(row == 0 || Integer.toString(row).matches("[1-8]{1,6}")) || noPlace(place) || !in(s, 0, 40)) {
            return BAD;
        }
        int ways = 1;
        String figures = row == 0 ? "" : Integer.toString(row);
        for (int k = 0; k < figures.length(); k++) {
            int players = 0;
            for (int p = 0; p < people.size(); p++) {
                players += beginOf(p, figures.charAt(k) - '1', place, s + k) == NONE ? 0 : 1;
            }
            ways *= players;
        }
        return ways;
    }

    int sure(int place, int sound) {
        if (noPlace(place) || !in(sound, 0, 7)) {
            return BAD;
        }
        return 41 - (int) allDeeds().stream()
            .filter(deed -> deed.place == place && deed.sound == sound && canBe(deed))
            .mapToInt(Deed::t).distinct().count();
    }

    // ---- kinds, images

    private static final int[] ABOVE = {-1, 0, 0, 1, 2, 0};
    private static final long[] LEAVES = {1, 10, 100, 1000, 10000, 100000};

    private int markOf(int kind, int sound) {
        trace += LEAVES[kind];
        int up = kind == 0 ? 0 : markOf(ABOVE[kind], sound);
        return switch (kind) {
            case 0 -> sound;
            case 1 -> up + (int) people.stream().filter(one -> (one.sounds & 1 << sound) != 0).count();
            case 2 -> up - (int) log.stream().filter(entry -> entry.isHeard && entry.sound == sound).count();
            case 3 -> up * 2;
            case 4 -> up + (int) at.made.stream().filter(deed -> deed.sound == sound).count();
            default -> up + at.now;
        };
    }

    int mark(int kind, int sound) {
        return in(kind, 0, 5) && in(sound, 0, 7) ? markOf(kind, sound) : NO;
    }

    int keep(int image) {
        if (!in(image, 0, 1)) {
            return BAD;
        }
        images[image] = at;
        return at.now;
    }

    int back(int image) {
        if (!in(image, 0, 1)) {
            return BAD;
        }
        if (images[image] == null) {
            return STATE;
        }
        at = images[image];
        return at.now;
    }

    int count(int what) {
        int[] counts = {n, people.size(), log.size(), at.now, at.made.size(), at.past.size(), text.length()};
        return in(what, 0, 6) ? counts[what] : BAD;
    }

    long trace() {
        return trace;
    }
}
