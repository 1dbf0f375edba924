/**
 * A valley in which sounds are heard before they are made, by as many seconds as it is far from
 * where they are heard to where they will be made. The words in capitals are the document's.
 *
 * Everything an object needs is made in its constructor; no call makes an object or an array, as
 * all calls of a run share one small room.
 */
public final class EchoesFirst {
    public static final int BAD = -1, STATE = -2, FULL = -3, NONE = -9;
    public static final int NO = -1000000;

    private static final int NOT_SO_MANY = -5;
    private static final int FAULT_BASE = -10;

    private static final int MOST_BYTES = 200;
    private static final int LAST_BYTE = 255;
    private static final int FEWEST_PLACES = 2;
    private static final int MOST_PLACES = 6;
    private static final int PLACES_AT_FIRST = 4;
    private static final int FARTHEST = 9;
    private static final int FAR_AT_FIRST = 3;
    private static final int FAR_TO_ITSELF = 1;
    private static final int MOST_PEOPLE = 6;
    private static final int SOUND_COUNT = 8;
    private static final int LAST_SECOND = 40;
    private static final int LAST_NOW = 60;
    private static final int MOST_LOGGED = 8;
    private static final int MOST_DONE = 10;
    private static final int MOST_UNDOABLE = 10;
    private static final int LAST_IMAGE = 1;
    private static final int LAST_KIND = 5;
    private static final int MOST_FIGURES = 6;
    private static final int PERSON_UNIT = 10000;
    private static final int SOUND_UNIT = 100;

    private final Text text;
    private final Valley told;
    private final Log log;
    private final Course course;
    private final Course imageZero;
    private final Course imageOne;
    private final DeedSets sets;
    private long asked;

    public EchoesFirst() {
        text = new Text();
        told = new Valley();
        log = new Log();
        course = new Course();
        imageZero = new Course();
        imageOne = new Course();
        sets = new DeedSets();
    }

    // ---- the valley

    public int type(int c) {
        if (!isWithin(c, LAST_BYTE)) {
            return BAD;
        }
        if (text.length >= MOST_BYTES) {
            return FULL;
        }
        text.add(c);
        return text.length;
    }

    public int clear() {
        int had = text.length;
        text.length = 0;
        return had;
    }

    public int valley() {
        int items = text.read();
        if (items < 0) {
            return items;
        }
        told.copyFrom(text.draft);
        text.length = 0;
        log.size = 0;
        course.startIn(told);
        imageZero.isKept = false;
        imageOne.isKept = false;
        return items;
    }

    public int far(int a, int b) {
        if (!told.isPlace(a) || !told.isPlace(b)) {
            return BAD;
        }
        return told.secondsBetween(a, b);
    }

    public int person(int p, int what) {
        if (!told.isPerson(p)) {
            return BAD;
        }
        switch (what) {
            case 0:
                return course.placeOf(p);
            case 1:
                return at(told.can, p);
            case 2:
                return at(told.from, p);
            case 3:
                return at(told.to, p);
            default:
                return BAD;
        }
    }

    // ---- what was heard

    public int heard(int s, int place, int sound, int is) {
        if (!isWithin(s, LAST_SECOND) || !told.isPlace(place) || !isSound(sound) || !isWithin(is, 1)) {
            return BAD;
        }
        if (log.size >= MOST_LOGGED) {
            return FULL;
        }
        log.add(s, place, sound, is);
        return log.size;
    }

    public int forget() {
        int had = log.size;
        log.size = 0;
        return had;
    }

    public int who(int i) {
        if (!log.has(i)) {
            return BAD;
        }
        return log.isHeard(i) ? makersOf(i, 0) : 0;
    }

    public int nobody() {
        for (int i = 0; i < log.size; i++) {
            if (log.isHeard(i) && makersOf(i, 0) == 0) {
                return i;
            }
        }
        return NONE;
    }

    public int deeds(int what) {
        if (!isWithin(what, 2)) {
            return BAD;
        }
        findSets();
        if (!sets.areThere()) {
            return NONE;
        }
        if (what == 0) {
            return sets.sizeOfEach();
        }
        return what == 1 ? (int) sets.howMany() : peopleInEachSet();
    }

    public int first(int i) {
        if (i < 0) {
            return BAD;
        }
        findSets();
        if (!sets.areThere()) {
            return NONE;
        }
        return i < sets.sizeOfEach() ? sets.numberInFirst(i) : NOT_SO_MANY;
    }

    public int odds(int p, int i, int what) {
        if (!told.isPerson(p) || !log.has(i) || !log.isHeard(i) || !isWithin(what, 1)) {
            return BAD;
        }
        findSets();
        if (!sets.areThere()) {
            return NONE;
        }
        long all = sets.howMany();
        long his = setsInWhichHeMakes(p, i);
        long divisor = greatestDivisor(all, his);
        return divisor > 0 ? (int) ((what == 0 ? his : all) / divisor) : NONE;
    }

    // ---- seconds

    public int second() {
        if (course.now >= LAST_NOW) {
            return STATE;
        }
        course.passSecond();
        return course.now;
    }

    public int makes(int p, int sound) {
        if (!told.isPerson(p) || !isSound(sound)) {
            return BAD;
        }
        if (!told.canMake(p, sound) || !told.isThere(p, course.now)) {
            return STATE;
        }
        if (course.doneCount >= MOST_DONE) {
            return FULL;
        }
        course.addDone(p, sound);
        return course.doneCount;
    }

    public int moves(int p, int place) {
        if (!told.isPerson(p) || !told.isPlace(place)) {
            return BAD;
        }
        int was = course.placeOf(p);
        if (was == place) {
            return STATE;
        }
        course.move(p, place);
        return was;
    }

    public int undo() {
        if (course.undoCount <= 0) {
            return STATE;
        }
        course.takeBack();
        return course.undoCount;
    }

    public int done(int i, int what) {
        if (i < 0 || i >= course.doneCount) {
            return BAD;
        }
        switch (what) {
            case 0:
                return at(course.donePerson, i);
            case 1:
                return at(course.doneSound, i);
            case 2:
                return at(course.doneSecond, i);
            case 3:
                return at(course.donePlace, i);
            default:
                return BAD;
        }
    }

    public int now(int what) {
        switch (what) {
            case 0:
                return dueBits();
            case 1:
                return pastBits();
            case 2:
                return lieBits();
            default:
                return BAD;
        }
    }

    // ---- listening, playing

    public int sit(int place) {
        if (!told.isPlace(place)) {
            return BAD;
        }
        int best = 0;
        for (int q = 1; q < told.places; q++) {
            if (told.secondsBetween(place, q) > told.secondsBetween(place, best)) {
                best = q;
            }
        }
        return best;
    }

    public int begin(int p, int sound, int place, int s) {
        if (!told.isPerson(p) || !isSound(sound) || !told.isPlace(place) || !isWithin(s, LAST_SECOND)) {
            return BAD;
        }
        return secondToBegin(p, sound, place, s);
    }

    public int together(int sound, int place, int people) {
        if (!isSound(sound) || !told.isPlace(place) || people <= 0 || people >= 1 << told.people) {
            return BAD;
        }
        for (int s = 0; s <= LAST_SECOND; s++) {
            if ((people & ~playersOf(sound, place, s)) == 0) {
                return s;
            }
        }
        return NONE;
    }

    public int played(int row, int place, int s) {
        if (!isRowOfSounds(row) || !told.isPlace(place) || !isWithin(s, LAST_SECOND)) {
            return BAD;
        }
        int ways = 1;
        int rest = row;
        for (int k = figuresOf(row) - 1; k >= 0; k--) {
            ways *= Integer.bitCount(playersOf(rest % 10 - 1, place, s + k));
            rest /= 10;
        }
        return ways;
    }

    public int sure(int place, int sound) {
        if (!told.isPlace(place) || !isSound(sound)) {
            return BAD;
        }
        int still = 0;
        for (int t = 0; t <= LAST_SECOND; t++) {
            if (isAgainstStill(place, sound, t) || !someoneCould(place, sound, t)) {
                still++;
            }
        }
        return still;
    }

    // ---- kinds, images

    public int mark(int kind, int sound) {
        if (!isWithin(kind, LAST_KIND) || !isSound(sound)) {
            return NO;
        }
        switch (kind) {
            case 1:
                return markOfShout(sound);
            case 2:
                return markOfFall(sound);
            case 3:
                return markOfName(sound);
            case 4:
                return markOfShot(sound);
            case 5:
                return markOfBell(sound);
            default:
                return markOfSound(sound);
        }
    }

    public int keep(int image) {
        if (!isWithin(image, LAST_IMAGE)) {
            return BAD;
        }
        Course kept = imageOf(image);
        kept.copyFrom(course);
        kept.isKept = true;
        return course.now;
    }

    public int back(int image) {
        if (!isWithin(image, LAST_IMAGE)) {
            return BAD;
        }
        Course kept = imageOf(image);
        if (!kept.isKept) {
            return STATE;
        }
        course.copyFrom(kept);
        return course.now;
    }

    public int count(int what) {
        switch (what) {
            case 0:
                return told.places;
            case 1:
                return told.people;
            case 2:
                return log.size;
            case 3:
                return course.now;
            case 4:
                return course.doneCount;
            case 5:
                return course.undoCount;
            case 6:
                return text.length;
            default:
                return BAD;
        }
    }

    public long trace() {
        return asked;
    }

    // ---- what numbers may be

    private static boolean isWithin(int number, int most) {
        return number >= 0 && number <= most;
    }

    private static boolean isSound(int sound) {
        return isWithin(sound, SOUND_COUNT - 1);
    }

    /** What a row holds at i; 0 beyond its ends, so that no index is used unseen. */
    private static int at(int[] row, int i) {
        return i >= 0 && i < row.length ? row[i] : 0;
    }

    private static void copyRow(int[] source, int[] target) {
        for (int k = 0; k < target.length && k < source.length; k++) {
            target[k] = source[k];
        }
    }

    private static boolean isRowOfSounds(int row) {
        if (row < 0 || figuresOf(row) > MOST_FIGURES) {
            return false;
        }
        int rest = row;
        for (int k = 0; k < MOST_FIGURES && rest > 0; k++) {
            if (!isSound(rest % 10 - 1)) {
                return false;
            }
            rest /= 10;
        }
        return true;
    }

    /** How many figures a row from 0 on has; 0 has none. */
    private static int figuresOf(int row) {
        int figures = 0;
        int rest = row;
        for (int k = 0; k < 10 && rest > 0; k++) {
            figures++;
            rest /= 10;
        }
        return figures;
    }

    private static long greatestDivisor(long a, long b) {
        long upper = a;
        long lower = b;
        for (int k = 0; k < 100 && lower != 0; k++) {
            long rest = upper % lower;
            upper = lower;
            lower = rest;
        }
        return upper;
    }

    private Course imageOf(int image) {
        return image == 0 ? imageZero : imageOne;
    }

    // ---- which deeds make what

    /** The second in which a person must make a SOUND, whatever THE LOG has; NONE. */
    private int secondToBegin(int p, int sound, int place, int s) {
        int t = s + told.secondsBetween(course.placeOf(p), place);
        return told.canMake(p, sound) && told.isThere(p, t) ? t : NONE;
    }

    /** People, as bits, who have a BEGIN. */
    private int playersOf(int sound, int place, int s) {
        int players = 0;
        for (int p = 0; p < told.people; p++) {
            if (secondToBegin(p, sound, place, s) != NONE) {
                players |= 1 << p;
            }
        }
        return players;
    }

    /** Whether the i-th of THE LOG tells of a sound made at a place in the second t. */
    private boolean reaches(int place, int sound, int t, int i) {
        return at(log.sounds, i) == sound
            && at(log.seconds, i) == t - told.secondsBetween(place, at(log.places, i));
    }

    private boolean isAgainstStill(int place, int sound, int t) {
        for (int i = 0; i < log.size; i++) {
            if (!log.isHeard(i) && reaches(place, sound, t, i)) {
                return true;
            }
        }
        return false;
    }

    private boolean someoneCould(int place, int sound, int t) {
        for (int p = 0; p < told.people; p++) {
            if (course.placeOf(p) == place && told.canMake(p, sound) && told.isThere(p, t)) {
                return true;
            }
        }
        return false;
    }

    /** The second of the one deed that can be by which a person makes the i-th of THE LOG; NONE. */
    private int secondToMake(int p, int i) {
        int sound = at(log.sounds, i);
        int t = secondToBegin(p, sound, at(log.places, i), at(log.seconds, i));
        return t == NONE || isAgainstStill(course.placeOf(p), sound, t) ? NONE : t;
    }

    /** People, as bits, who can make the i-th of THE LOG in the second given or later. */
    private int makersOf(int i, int earliest) {
        int makers = 0;
        for (int p = 0; p < told.people; p++) {
            int t = secondToMake(p, i);
            if (t != NONE && t >= earliest) {
                makers |= 1 << p;
            }
        }
        return makers;
    }

    // ---- the fewest deeds

    private void findSets() {
        sets.empty();
        for (int i = 0; i < log.size; i++) {
            int bit = log.isHeard(i) ? sets.addGoal() : 0;
            for (int p = 0; p < told.people && bit != 0; p++) {
                int t = secondToMake(p, i);
                if (t != NONE) {
                    sets.addDeed(numberOf(p, at(log.sounds, i), t), bit);
                }
            }
        }
        sets.solve(DeedSets.ALL_PEOPLE, DeedSets.ALL_DEEDS);
    }

    private static int numberOf(int p, int sound, int t) {
        return PERSON_UNIT * p + SOUND_UNIT * sound + t;
    }

    private int peopleInEachSet() {
        int size = sets.sizeOfEach();
        int must = 0;
        for (int p = 0; p < told.people; p++) {
            sets.solve(p, DeedSets.ALL_DEEDS);
            if (sets.sizeOfEach() != size) {
                must |= 1 << p;
            }
        }
        return must;
    }

    private long setsInWhichHeMakes(int p, int i) {
        int t = secondToMake(p, i);
        if (t == NONE) {
            return 0;
        }
        int size = sets.sizeOfEach();
        long all = sets.howMany();
        sets.solve(DeedSets.ALL_PEOPLE, numberOf(p, at(log.sounds, i), t));
        return sets.sizeOfEach() == size ? all - sets.howMany() : all;
    }

    // ---- due, past, lies

    private boolean isMadeByDone(int i) {
        for (int k = 0; k < course.doneCount; k++) {
            if (reaches(at(course.donePlace, k), at(course.doneSound, k), at(course.doneSecond, k), i)) {
                return true;
            }
        }
        return false;
    }

    private int dueBits() {
        int due = 0;
        for (int i = 0; i < log.size; i++) {
            if (log.isHeard(i) && !isMadeByDone(i)) {
                due |= 1 << i;
            }
        }
        return due;
    }

    private int pastBits() {
        int due = dueBits();
        int past = 0;
        for (int i = 0; i < log.size; i++) {
            if ((due >> i & 1) != 0 && makersOf(i, course.now) == 0) {
                past |= 1 << i;
            }
        }
        return past;
    }

    private int lieBits() {
        int lies = 0;
        for (int k = 0; k < course.doneCount; k++) {
            if (isAgainstStill(at(course.donePlace, k), at(course.doneSound, k), at(course.doneSecond, k))) {
                lies |= 1 << k;
            }
        }
        return lies;
    }

    // ---- what each kind marks, and what it leaves on the trace

    private int markOfSound(int sound) {
        asked += 1;
        return sound;
    }

    private int markOfShout(int sound) {
        asked += 10;
        return markOfSound(sound) + told.howManyCan(sound);
    }

    private int markOfFall(int sound) {
        asked += 100;
        return markOfSound(sound) - log.timesHeard(sound);
    }

    private int markOfName(int sound) {
        asked += 1000;
        return markOfShout(sound) * 2;
    }

    private int markOfShot(int sound) {
        asked += 10000;
        return markOfFall(sound) + course.timesDone(sound);
    }

    private int markOfBell(int sound) {
        asked += 100000;
        return markOfSound(sound) + course.now;
    }

    /** What THE TEXT tells: PLACES, FAR, and PEOPLE as they are at the beginning. */
    private static final class Valley {
        int places;
        int people;
        final int[] seconds;
        final int[] home;
        final int[] can;
        final int[] from;
        final int[] to;

        Valley() {
            seconds = new int[MOST_PLACES * MOST_PLACES];
            home = new int[MOST_PEOPLE];
            can = new int[MOST_PEOPLE];
            from = new int[MOST_PEOPLE];
            to = new int[MOST_PEOPLE];
            becomeAsAtFirst();
        }

        void becomeAsAtFirst() {
            places = PLACES_AT_FIRST;
            people = 0;
            for (int k = 0; k < seconds.length; k++) {
                boolean isItself = k / MOST_PLACES == k % MOST_PLACES;
                seconds[k] = isItself ? FAR_TO_ITSELF : FAR_AT_FIRST;
            }
        }

        void copyFrom(Valley other) {
            places = other.places;
            people = other.people;
            copyRow(other.seconds, seconds);
            copyRow(other.home, home);
            copyRow(other.can, can);
            copyRow(other.from, from);
            copyRow(other.to, to);
        }

        boolean isPlace(int place) {
            return place >= 0 && place < places;
        }

        boolean isPerson(int p) {
            return p >= 0 && p < people;
        }

        int secondsBetween(int a, int b) {
            boolean areBoth = a >= 0 && a < MOST_PLACES && b >= 0 && b < MOST_PLACES;
            return areBoth ? seconds[a * MOST_PLACES + b] : 0;
        }

        void setBetween(int a, int b, int far) {
            if (a >= 0 && a < MOST_PLACES && b >= 0 && b < MOST_PLACES) {
                seconds[a * MOST_PLACES + b] = far;
                seconds[b * MOST_PLACES + a] = far;
            }
        }

        void addPerson(int place, int sounds, int first, int last) {
            if (people >= 0 && people < MOST_PEOPLE) {
                home[people] = place;
                can[people] = sounds;
                from[people] = first;
                to[people] = last;
                people++;
            }
        }

        boolean canMake(int p, int sound) {
            return isPerson(p) && (at(can, p) >> sound & 1) != 0;
        }

        boolean isThere(int p, int t) {
            return isPerson(p) && t >= at(from, p) && t <= at(to, p);
        }

        int howManyCan(int sound) {
            int able = 0;
            for (int p = 0; p < people; p++) {
                if (canMake(p, sound)) {
                    able++;
                }
            }
            return able;
        }
    }

    /** THE TEXT, read TOKEN by TOKEN; where reading stops, the TOKEN at hand is to blame. */
    private static final class Text {
        private static final int END = 0, LETTERS = 1, NUMBER = 2, STOP = 3, WRONG = 4;
        private static final int BLANK = 32;

        int length;
        final Valley draft;
        private final int[] bytes;
        private int start;
        private int next;
        private int token;
        private int number;

        Text() {
            draft = new Valley();
            bytes = new int[MOST_BYTES];
        }

        void add(int c) {
            if (length >= 0 && length < MOST_BYTES) {
                bytes[length] = c;
                length++;
            }
        }

        /** Tells the draft all: how many ITEMS; FAULT_BASE less FAULT, the draft being of no use then. */
        int read() {
            next = 0;
            draft.becomeAsAtFirst();
            for (int items = 0; items <= length; items++) {
                step();
                if (token == END) {
                    return items;
                }
                if (!readItem(items)) {
                    break;
                }
            }
            return FAULT_BASE - start;
        }

        private boolean readItem(int itemsAhead) {
            if (token != LETTERS || next - start != 1) {
                return false;
            }
            switch (at(bytes, start)) {
                case 'n':
                    return itemsAhead == 0 && readPlaces();
                case 'f':
                    return readFar();
                case 'p':
                    return draft.people < MOST_PEOPLE && readPerson();
                default:
                    return false;
            }
        }

        private boolean readPlaces() {
            if (!stepToNumber(FEWEST_PLACES, MOST_PLACES)) {
                return false;
            }
            draft.places = number;
            return stepToStop();
        }

        private boolean readFar() {
            if (!stepToNumber(0, draft.places - 1)) {
                return false;
            }
            int a = number;
            if (!stepToNumber(0, draft.places - 1)) {
                return false;
            }
            int b = number;
            if (!stepToNumber(0, FARTHEST)) {
                return false;
            }
            draft.setBetween(a, b, number);
            return stepToStop();
        }

        private boolean readPerson() {
            if (!stepToNumber(0, draft.places - 1)) {
                return false;
            }
            int place = number;
            if (!stepToNumber(0, LAST_SECOND)) {
                return false;
            }
            int from = number;
            if (!stepToNumber(from, LAST_SECOND)) {
                return false;
            }
            int to = number;
            int sounds = readSounds();
            if (sounds == 0) {
                return false;
            }
            draft.addPerson(place, sounds, from, to);
            return true;
        }

        /** The SOUNDS, as bits, up to the end of the ITEM; 0 if a TOKEN can't stand there. */
        private int readSounds() {
            int sounds = 0;
            for (int k = 0; k <= SOUND_COUNT; k++) {
                step();
                if (token == STOP) {
                    return sounds;
                }
                if (token != NUMBER || !isSound(number) || (sounds >> number & 1) != 0) {
                    return 0;
                }
                sounds |= 1 << number;
            }
            return 0;
        }

        private boolean stepToNumber(int least, int most) {
            step();
            return token == NUMBER && number >= least && number <= most;
        }

        private boolean stepToStop() {
            step();
            return token == STOP;
        }

        private void step() {
            start = next;
            while (start < length && at(bytes, start) == BLANK) {
                start++;
            }
            token = start < length ? kindOf(at(bytes, start)) : END;
            next = token == END ? start : start + 1;
            if (token != LETTERS && token != NUMBER) {
                return;
            }
            while (next < length && kindOf(at(bytes, next)) == token) {
                next++;
            }
            if (token == NUMBER) {
                number = valueOf(next - start, at(bytes, start), at(bytes, start + 1));
                token = number < 0 ? WRONG : NUMBER;
            }
        }

        private static int kindOf(int c) {
            if (c >= 'a' && c <= 'z') {
                return LETTERS;
            }
            if (c >= '0' && c <= '9') {
                return NUMBER;
            }
            return c == ';' ? STOP : WRONG;
        }

        /** The value of one or two figures; -1: above 99 or with a 0 ahead of others. */
        private static int valueOf(int figures, int head, int tail) {
            if (figures == 1) {
                return head - '0';
            }
            return figures > 2 || head == '0' ? -1 : (head - '0') * 10 + tail - '0';
        }
    }

    private static final class Log {
        int size;
        final int[] seconds;
        final int[] places;
        final int[] sounds;
        private final int[] heardOnes;

        Log() {
            seconds = new int[MOST_LOGGED];
            places = new int[MOST_LOGGED];
            sounds = new int[MOST_LOGGED];
            heardOnes = new int[MOST_LOGGED];
        }

        boolean has(int i) {
            return i >= 0 && i < size;
        }

        void add(int s, int place, int sound, int is) {
            if (size >= 0 && size < MOST_LOGGED) {
                seconds[size] = s;
                places[size] = place;
                sounds[size] = sound;
                heardOnes[size] = is;
                size++;
            }
        }

        boolean isHeard(int i) {
            return at(heardOnes, i) == 1;
        }

        int timesHeard(int sound) {
            int times = 0;
            for (int i = 0; i < size; i++) {
                if (isHeard(i) && at(sounds, i) == sound) {
                    times++;
                }
            }
            return times;
        }
    }

    /** All that an IMAGE keeps: NOW, things DONE, where PEOPLE are, what may be UNDONE. */
    private static final class Course {
        private static final int SECOND = 0, MADE = 1, MOVED = 2;

        boolean isKept;
        int now;
        int doneCount;
        int undoCount;
        final int[] donePerson;
        final int[] doneSound;
        final int[] doneSecond;
        final int[] donePlace;
        private final int[] place;
        private final int[] undoWhat;
        private final int[] undoPerson;
        private final int[] undoPlace;

        Course() {
            donePerson = new int[MOST_DONE];
            doneSound = new int[MOST_DONE];
            doneSecond = new int[MOST_DONE];
            donePlace = new int[MOST_DONE];
            place = new int[MOST_PEOPLE];
            undoWhat = new int[MOST_UNDOABLE];
            undoPerson = new int[MOST_UNDOABLE];
            undoPlace = new int[MOST_UNDOABLE];
        }

        void startIn(Valley valley) {
            now = 0;
            doneCount = 0;
            undoCount = 0;
            copyRow(valley.home, place);
        }

        void copyFrom(Course other) {
            now = other.now;
            doneCount = other.doneCount;
            undoCount = other.undoCount;
            copyRow(other.donePerson, donePerson);
            copyRow(other.doneSound, doneSound);
            copyRow(other.doneSecond, doneSecond);
            copyRow(other.donePlace, donePlace);
            copyRow(other.place, place);
            copyRow(other.undoWhat, undoWhat);
            copyRow(other.undoPerson, undoPerson);
            copyRow(other.undoPlace, undoPlace);
        }

        int placeOf(int p) {
            return at(place, p);
        }

        void passSecond() {
            remember(SECOND, 0);
            now++;
        }

        void addDone(int p, int sound) {
            if (doneCount >= 0 && doneCount < MOST_DONE) {
                remember(MADE, p);
                donePerson[doneCount] = p;
                doneSound[doneCount] = sound;
                doneSecond[doneCount] = now;
                donePlace[doneCount] = placeOf(p);
                doneCount++;
            }
        }

        void move(int p, int target) {
            if (p >= 0 && p < place.length) {
                remember(MOVED, p);
                place[p] = target;
            }
        }

        /** Notes what is about to happen, and where the person is ahead of it. */
        private void remember(int what, int p) {
            if (undoCount >= MOST_UNDOABLE) {
                loseOldest();
            }
            if (undoCount >= 0 && undoCount < MOST_UNDOABLE) {
                undoWhat[undoCount] = what;
                undoPerson[undoCount] = p;
                undoPlace[undoCount] = placeOf(p);
                undoCount++;
            }
        }

        private void loseOldest() {
            for (int k = 1; k < MOST_UNDOABLE; k++) {
                undoWhat[k - 1] = undoWhat[k];
                undoPerson[k - 1] = undoPerson[k];
                undoPlace[k - 1] = undoPlace[k];
            }
            undoCount = MOST_UNDOABLE - 1;
        }

        void takeBack() {
            undoCount--;
            int what = at(undoWhat, undoCount);
            int p = at(undoPerson, undoCount);
            if (what == SECOND) {
                now--;
            } else if (what == MADE) {
                doneCount--;
            } else if (p >= 0 && p < place.length) {
                place[p] = at(undoPlace, undoCount);
            }
        }

        int timesDone(int sound) {
            int times = 0;
            for (int k = 0; k < doneCount; k++) {
                if (at(doneSound, k) == sound) {
                    times++;
                }
            }
            return times;
        }
    }

    /**
     * The sets of fewest deeds that reach every goal; a goal is a bit, one for each that is HEARD.
     * Deeds come in one by one, the highest number first: so a deed that comes in as one of equally
     * few stands ahead of all others of its set, and that set's row ahead of those known till then.
     */
    private static final class DeedSets {
        static final int ALL_PEOPLE = -1, ALL_DEEDS = -1;
        private static final int MOST_DEEDS = MOST_LOGGED * MOST_PEOPLE;
        private static final int GOAL_SETS = 1 << MOST_LOGGED;
        private static final int UNREACHED = 99;

        private int size;
        private int goals;
        private final int[] numbers;
        private final int[] reached;
        private final int[] fewest;
        private final long[] ways;
        private final long[] firstRow;

        DeedSets() {
            numbers = new int[MOST_DEEDS];
            reached = new int[MOST_DEEDS];
            fewest = new int[GOAL_SETS];
            ways = new long[GOAL_SETS];
            firstRow = new long[GOAL_SETS];
        }

        void empty() {
            size = 0;
            goals = 0;
        }

        int addGoal() {
            int bit = goals + 1;
            if (goals + bit >= GOAL_SETS) {
                return 0;
            }
            goals += bit;
            return bit;
        }

        /** A deed reaches a goal; deeds stand in the order of their numbers, each once. */
        void addDeed(int number, int bit) {
            int place = 0;
            while (place < size && at(numbers, place) < number) {
                place++;
            }
            if (place < size && place < MOST_DEEDS && at(numbers, place) == number) {
                reached[place] |= bit;
            } else if (place <= size && size < MOST_DEEDS) {
                for (int k = size; k > place; k--) {
                    numbers[k] = numbers[k - 1];
                    reached[k] = reached[k - 1];
                }
                numbers[place] = number;
                reached[place] = bit;
                size++;
            }
        }

        /** Leaves out one person's deeds and the deed of one number: what then is lacking needed them. */
        void solve(int notPerson, int notNumber) {
            for (int wanted = 0; wanted <= goals && wanted < GOAL_SETS; wanted++) {
                fewest[wanted] = wanted == 0 ? 0 : UNREACHED;
                ways[wanted] = wanted == 0 ? 1 : 0;
                firstRow[wanted] = 0;
            }
            for (int k = size - 1; k >= 0; k--) {
                int number = at(numbers, k);
                if (number / PERSON_UNIT != notPerson && number != notNumber) {
                    letIn(k);
                }
            }
        }

        /** Goes from high sets to low, as each builds on a lower one that must not have this deed yet. */
        private void letIn(int k) {
            int reach = at(reached, k);
            for (int wanted = Math.min(goals, GOAL_SETS - 1); wanted > 0; wanted--) {
                int rest = wanted & ~reach;
                int with = fewest[rest] + 1;
                if (with <= fewest[wanted]) {
                    ways[wanted] = with < fewest[wanted] ? ways[rest] : ways[wanted] + ways[rest];
                    firstRow[wanted] = firstRow[rest] | 1L << k;
                    fewest[wanted] = with;
                }
            }
        }

        private int seenGoals() {
            return Math.max(0, Math.min(goals, GOAL_SETS - 1));
        }

        boolean areThere() {
            return fewest[seenGoals()] < UNREACHED;
        }

        int sizeOfEach() {
            return fewest[seenGoals()];
        }

        long howMany() {
            return ways[seenGoals()];
        }

        int numberInFirst(int i) {
            long row = firstRow[seenGoals()];
            int seen = 0;
            for (int k = 0; k < size; k++) {
                if ((row >> k & 1) != 0) {
                    if (seen == i) {
                        return at(numbers, k);
                    }
                    seen++;
                }
            }
            return NOT_SO_MANY;
        }
    }
}
