import java.util.Arrays;

/** Villages of people who tell one another a word and its denial, both told as texts. */
public final class SaidBack {
    public static final int NONE = -1;

    private static final int NOT_THERE = -2;
    private static final int FAR_OFF = -1000;
    private static final int VILLAGE = 0;
    private static final int TELLING = 1;
    private static final int IMAGES = 3;
    private static final int ROOM = 16;
    private static final int KINDS = 6;
    private static final int MOST_TIES = 40;
    private static final int LAST_DAY = 200;
    private static final int ACT_DAYS = 100;

    private static final int FIRST = 0;
    private static final int LAST = 1;
    private static final int MOST = 2;
    private static final int TILL = 3;
    private static final int BOTH = 4;
    private static final int ONCE = 5;

    private static final int WORD = 0;
    private static final int DENY = 1;
    private static final int WALL = 2;

    private final Book book;
    private final Book[] images;
    private final boolean[] taken;
    private final Reader reader;
    private final Search search;
    private final Run life;
    private final Days days;
    private final Ways ways;

    public SaidBack() {
        book = new Book();
        images = new Book[IMAGES];
        for (int i = 0; i < IMAGES; i++) {
            images[i] = new Book();
        }
        taken = new boolean[IMAGES];
        reader = new Reader();
        life = new Run();
        days = life.days;
        search = new Search(life);
        ways = new Ways();
    }

    public int feed(int a, int b, int c, int d, int e) {
        Tape tape = book.tape;
        if (!tape.hasRoom()) {
            return NONE;
        }
        tape.put(a);
        tape.put(b);
        tape.put(c);
        tape.put(d);
        tape.put(e);
        return tape.length;
    }

    public int end(int n) {
        if (n < 0 || n > book.tape.length) {
            return NONE;
        }
        book.tape.length = n;
        return n;
    }

    public int text(int sort, int at) {
        boolean fits = book.fits(sort, at);
        if (fits) {
            reader.read(sort, book.tape);
        }
        book.tape.length = 0;
        book.flaw = fits ? reader.flaw : 0;
        book.flawAt = fits ? reader.flawAt : NONE;
        if (!fits) {
            return NOT_THERE;
        }
        if (book.flaw != 0) {
            return NONE;
        }
        return sort == VILLAGE ? book.keep(reader.village, at) : book.keep(reader.telling, at);
    }

    public int fault(int what) {
        if (what == 0) {
            return book.flaw;
        }
        return what == 1 ? book.flawAt : NONE;
    }

    public int village(int village, int what) {
        if (!book.hasVillage(village)) {
            return NONE;
        }
        Village of = book.villages[village];
        if (of.has(what - 10)) {
            return of.kind[what - 10];
        }
        if (of.has(what - 30)) {
            return of.doubt[what - 30];
        }
        switch (what) {
            case 0: return of.people;
            case 1: return of.ties;
            case 2: return of.slow;
            case 3: return of.wordTires;
            case 4: return of.denialTires;
            default: return NONE;
        }
    }

    public int tie(int village, int tie, int what) {
        if (!book.hasVillage(village)) {
            return NONE;
        }
        Village of = book.villages[village];
        if (tie < 0 || tie >= of.ties) {
            return NONE;
        }
        switch (what) {
            case 0: return of.from[tie];
            case 1: return of.to[tie];
            case 2: return of.days[tie];
            case 3: return of.strength[tie];
            default: return NONE;
        }
    }

    public int act(int telling, int act, int what) {
        if (!book.hasTelling(telling)) {
            return NOT_THERE;
        }
        Telling of = book.tellings[telling];
        if (act == NONE && what == 0) {
            return of.acts;
        }
        if (act < 0 || act >= of.acts) {
            return NOT_THERE;
        }
        switch (what) {
            case 0: return of.sort[act];
            case 1: return of.first[act];
            case 2: return of.second[act];
            case 3: return of.third[act];
            default: return NOT_THERE;
        }
    }

    public int person(int village, int telling, int day, int person, int what) {
        if (!onDay(day, LAST_DAY) || !hasPerson(village, person) || !take(village, telling)) {
            return FAR_OFF;
        }
        life.live(0, day, false);
        switch (what) {
            case 0: return days.has(day, person);
            case 1: return life.hears(day, person, false);
            case 2: return life.hears(day, person, true);
            case 3: return days.sums[day * ROOM + person];
            case 4: return days.says(day, person);
            default: return FAR_OFF;
        }
    }

    public int holders(int village, int telling, int day, boolean deny) {
        if (!onDay(day, LAST_DAY) || !take(village, telling)) {
            return NONE;
        }
        life.live(0, day, false);
        return deny ? days.denial[day] : days.holdersOn(day);
    }

    public int run(int village, int telling, int what) {
        if (!take(village, telling)) {
            return NOT_THERE;
        }
        life.live(0, LAST_DAY, false);
        switch (what) {
            case 0: return days.ringDay;
            case 1: return days.ringLength;
            case 2: return days.isClean() ? 1 : 0;
            case 3: return life.given.lastDay();
            case 4: return days.peak();
            case 5: return Integer.bitCount(days.holdersOn(days.peak()));
            case 6: return days.half(life.village.people);
            default: return NOT_THERE;
        }
    }

    public int held(int village, int telling, int person, int n) {
        if (!onDay(n, LAST_DAY) || !hasPerson(village, person) || !take(village, telling)) {
            return NONE;
        }
        life.live(0, n, false);
        return days.heldBy(person, n);
    }

    public int heard(int village, int telling, int person, boolean deny, boolean from) {
        if (!hasPerson(village, person) || !take(village, telling)) {
            return NOT_THERE;
        }
        life.live(0, LAST_DAY, false);
        int day = life.firstHeard(person, deny);
        if (day == NONE) {
            return NOT_THERE;
        }
        return from ? life.heardFrom(person, day, deny) : day;
    }

    public int cure(int village, int telling, int day, int n) {
        if (!onDay(day, 99) || n < 0 || n > 3 || !take(village, telling)) {
            return NONE;
        }
        return search.leastCure(day, n);
    }

    public int late(int village, int telling, int n) {
        if (n < 0 || n > 2 || !take(village, telling)) {
            return NONE;
        }
        return search.lastCureDay(n);
    }

    public int begun(int village, int telling, int day, int holders, int k) {
        if (k < NONE || !onDay(day, 99) || !areThere(village, holders) || !take(village, telling)) {
            return NOT_THERE;
        }
        return search.beginnings(day, holders, k);
    }

    public int origin(int village, int telling, int day, int holders, boolean far) {
        if (!onDay(day, 99) || !areThere(village, holders) || !take(village, telling)) {
            return NONE;
        }
        return search.nearestBeginning(day, holders, far);
    }

    public int matters(int village, int telling, int person) {
        if (!hasPerson(village, person) || !take(village, telling)) {
            return FAR_OFF;
        }
        return search.weightOf(person);
    }

    public int key(int village, int telling, boolean tie) {
        if (!take(village, telling)) {
            return NONE;
        }
        return tie ? search.bestWithoutTie() : search.bestSilent();
    }

    public int apart(int village, int from, int to) {
        if (!areTwo(village, from, to)) {
            return NONE;
        }
        return ways.mostApart(book.villages[village], from, to);
    }

    public long cut(int village, int from, int to) {
        if (!areTwo(village, from, to)) {
            return NONE;
        }
        return ways.nearestCut(book.villages[village], from, to);
    }

    public int soon(int village, int from, int to, boolean deny) {
        if (!areTwo(village, from, to)) {
            return NONE;
        }
        return ways.fewestDays(book.villages[village], from, to, deny);
    }

    public int reach(int village, int person, int what) {
        if (!hasPerson(village, person)) {
            return NONE;
        }
        Village of = book.villages[village];
        switch (what) {
            case 0: return ways.forward(of, person);
            case 1: return ways.forward(of, person) & ways.backward(of, person);
            case 2: return of.strengthTo(person);
            default: return NONE;
        }
    }

    public int loud(int village) {
        return book.hasVillage(village) ? book.villages[village].loudest() : NONE;
    }

    public int drawn(int village, int telling, int seed, int day, int what) {
        if (!onDay(day, LAST_DAY) || what < 0 || what > 1 || !take(village, telling)) {
            return NONE;
        }
        return search.drawnWorld(seed, day, what == 0);
    }

    public int worlds(int village, int telling, int seed, int w, int day, boolean holders) {
        if (!onDay(day, LAST_DAY) || w < 1 || w > 20 || !take(village, telling)) {
            return NONE;
        }
        return search.drawnWorlds(seed, w, day, holders);
    }

    public long barred(int village, int telling, int day, int n) {
        if (!onDay(day, 99) || n < 0 || n > 2 || !take(village, telling)) {
            return NONE;
        }
        return search.leastBarred(day, n);
    }

    public int join(int village, int telling, boolean to) {
        if (!take(village, telling)) {
            return NONE;
        }
        return search.firstJoin(to);
    }

    public int unlike(int village, int one, int other) {
        if (!take(village, one) || !isToldBy(other)) {
            return NONE;
        }
        return search.firstUnlike(book.tellingOrNull(other));
    }

    public int whole(int village, int telling, int what) {
        if (!take(village, telling)) {
            return NOT_THERE;
        }
        life.live(0, LAST_DAY, false);
        switch (what) {
            case 0: return days.everHolders();
            case 1: return days.quietFrom();
            case 2: return days.lastHeldDay();
            case 3: return days.firmFrom(days.peak()) & life.village.all();
            default: return NOT_THERE;
        }
    }

    public int wavers(int village, int telling, int person) {
        if (!hasPerson(village, person) || !take(village, telling)) {
            return NONE;
        }
        life.live(0, LAST_DAY, false);
        return days.changesOf(person);
    }

    public int often(int village, int telling, int day, int person) {
        if (!onDay(day, 90) || !hasPerson(village, person) || !take(village, telling)) {
            return NONE;
        }
        return search.fewestDenials(day, person);
    }

    public int cures(int village, int telling, int day, int n) {
        if (!onDay(day, 99) || n < 0 || n > 2 || !take(village, telling)) {
            return NONE;
        }
        return search.howManyCures(day, n);
    }

    public int shield(int village, int telling, int person, int n) {
        if (n < 0 || n > 2 || !hasPerson(village, person) || !take(village, telling)) {
            return NONE;
        }
        return search.leastShield(person, n);
    }

    public int worst(int village, int telling, int what) {
        if (!take(village, telling)) {
            return NONE;
        }
        switch (what) {
            case 0: return search.widestBeginning(false);
            case 1: return search.widestBeginning(true);
            case 2: return search.longestBeginning(false);
            case 3: return search.longestBeginning(true);
            default: return NONE;
        }
    }

    public int deaf(int village, int telling, int person) {
        if (!hasPerson(village, person) || !take(village, telling)) {
            return NONE;
        }
        return search.leastDeafDoubt(person);
    }

    public int turn(int village, int telling, int kind, boolean end) {
        if (kind < 0 || kind >= KINDS || !take(village, telling)) {
            return NONE;
        }
        return search.bestTurned(kind, end);
    }

    public int chain(int village, int telling, int person, int k) {
        if (k < NONE || !hasPerson(village, person) || !take(village, telling)) {
            return NOT_THERE;
        }
        life.live(0, LAST_DAY, false);
        return life.tellersBehind(person, k);
    }

    public int count(int sort) {
        if (sort == VILLAGE) {
            return book.villageCount;
        }
        return sort == TELLING ? book.tellingCount : NOT_THERE;
    }

    public boolean image(int k) {
        if (k < 0 || k >= IMAGES) {
            return false;
        }
        images[k].copy(book);
        taken[k] = true;
        return true;
    }

    public boolean again(int k) {
        if (k < 0 || k >= IMAGES || !taken[k]) {
            return false;
        }
        book.copy(images[k]);
        return true;
    }

    private static boolean onDay(int day, int last) {
        return day >= 0 && day <= last;
    }

    private boolean hasPerson(int village, int person) {
        return book.hasVillage(village) && book.villages[village].has(person);
    }

    private boolean areTwo(int village, int one, int other) {
        return one != other && hasPerson(village, one) && hasPerson(village, other);
    }

    private boolean areThere(int village, int some) {
        return book.hasVillage(village) && (some & ~book.villages[village].all()) == 0;
    }

    private boolean isToldBy(int telling) {
        return telling == NONE || book.hasTelling(telling);
    }

    /** Makes village and telling the ones that the next run is of; false if one is not there. */
    private boolean take(int village, int telling) {
        if (!book.hasVillage(village) || !isToldBy(telling)) {
            return false;
        }
        life.village.copy(book.villages[village]);
        life.given.plan.set(book.tellingOrNull(telling));
        life.given.plain();
        return true;
    }

    /** The bytes that have come and are not yet taken as a text. */
    private static final class Tape {
        static final int SIZE = 600;
        static final int HELPING = 20;

        final int[] bytes = new int[SIZE];
        int length;

        void copy(Tape other) {
            System.arraycopy(other.bytes, 0, bytes, 0, SIZE);
            length = other.length;
        }

        boolean hasRoom() {
            return length + HELPING <= SIZE;
        }

        void put(int number) {
            for (int shift = 24; shift >= 0 && length < SIZE; shift -= 8) {
                bytes[length] = number >> shift & 255;
                length++;
            }
        }

        int at(int place) {
            return place >= 0 && place < length ? bytes[place] : NONE;
        }
    }

    private static final class Village {
        // one more than can be told, for the further tie of a what-if
        static final int TIE_ROOM = MOST_TIES + 1;

        int people;
        final int[] kind = new int[ROOM];
        final int[] doubt = new int[ROOM];
        int ties;
        final int[] from = new int[TIE_ROOM];
        final int[] to = new int[TIE_ROOM];
        final int[] days = new int[TIE_ROOM];
        final int[] strength = new int[TIE_ROOM];
        int slow;
        int wordTires;
        int denialTires;

        void clear() {
            people = 2;
            Arrays.fill(kind, FIRST);
            Arrays.fill(doubt, 1);
            ties = 0;
            slow = 0;
            wordTires = 0;
            denialTires = 0;
        }

        void copy(Village other) {
            people = other.people;
            System.arraycopy(other.kind, 0, kind, 0, ROOM);
            System.arraycopy(other.doubt, 0, doubt, 0, ROOM);
            ties = other.ties;
            System.arraycopy(other.from, 0, from, 0, TIE_ROOM);
            System.arraycopy(other.to, 0, to, 0, TIE_ROOM);
            System.arraycopy(other.days, 0, days, 0, TIE_ROOM);
            System.arraycopy(other.strength, 0, strength, 0, TIE_ROOM);
            slow = other.slow;
            wordTires = other.wordTires;
            denialTires = other.denialTires;
        }

        void addTie(int one, int other, int late, int strong) {
            if (ties >= TIE_ROOM) {
                return;
            }
            from[ties] = one;
            to[ties] = other;
            days[ties] = late;
            strength[ties] = strong;
            ties++;
        }

        boolean has(int person) {
            return person >= 0 && person < people;
        }

        int all() {
            return (1 << people) - 1;
        }

        /** On how many days one says it at most; 0: there is no such number. */
        int limit(int person, boolean deny) {
            if (kind[person] == ONCE) {
                return 1;
            }
            return deny ? denialTires : wordTires;
        }

        int strengthTo(int person) {
            int sum = 0;
            for (int tie = 0; tie < ties; tie++) {
                if (to[tie] == person) {
                    sum += strength[tie];
                }
            }
            return sum;
        }

        int loudest() {
            int best = NONE;
            int most = 0;
            for (int person = 0; person < people; person++) {
                int others = 0;
                for (int tie = 0; tie < ties; tie++) {
                    if (from[tie] == person) {
                        others |= 1 << to[tie];
                    }
                }
                if (Integer.bitCount(others) > most) {
                    most = Integer.bitCount(others);
                    best = person;
                }
            }
            return best;
        }
    }

    private static final class Telling {
        static final int MOST_ACTS = 30;

        int acts;
        final int[] sort = new int[MOST_ACTS];
        final int[] first = new int[MOST_ACTS];
        final int[] second = new int[MOST_ACTS];
        final int[] third = new int[MOST_ACTS];

        void copy(Telling other) {
            acts = other.acts;
            System.arraycopy(other.sort, 0, sort, 0, MOST_ACTS);
            System.arraycopy(other.first, 0, first, 0, MOST_ACTS);
            System.arraycopy(other.second, 0, second, 0, MOST_ACTS);
            System.arraycopy(other.third, 0, third, 0, MOST_ACTS);
        }

        void addAct(int what, int one, int two, int three) {
            if (acts >= MOST_ACTS) {
                return;
            }
            sort[acts] = what;
            first[acts] = one;
            second[acts] = two;
            third[acts] = three;
            acts++;
        }
    }

    /** All that is told: what an image holds. */
    private static final class Book {
        static final int MOST_VILLAGES = 2;
        static final int MOST_TELLINGS = 3;

        final Village[] villages = new Village[MOST_VILLAGES];
        final Telling[] tellings = new Telling[MOST_TELLINGS];
        final Tape tape = new Tape();
        int villageCount;
        int tellingCount;
        int flaw;
        int flawAt = NONE;

        Book() {
            for (int i = 0; i < MOST_VILLAGES; i++) {
                villages[i] = new Village();
            }
            for (int i = 0; i < MOST_TELLINGS; i++) {
                tellings[i] = new Telling();
            }
        }

        void copy(Book other) {
            for (int i = 0; i < MOST_VILLAGES; i++) {
                villages[i].copy(other.villages[i]);
            }
            for (int i = 0; i < MOST_TELLINGS; i++) {
                tellings[i].copy(other.tellings[i]);
            }
            tape.copy(other.tape);
            villageCount = other.villageCount;
            tellingCount = other.tellingCount;
            flaw = other.flaw;
            flawAt = other.flawAt;
        }

        boolean hasVillage(int village) {
            return village >= 0 && village < villageCount;
        }

        boolean hasTelling(int telling) {
            return telling >= 0 && telling < tellingCount;
        }

        Telling tellingOrNull(int telling) {
            return hasTelling(telling) ? tellings[telling] : null;
        }

        /** Whether a text of a sort may stand at a place (NONE: behind the others). */
        boolean fits(int sort, int at) {
            if (sort == VILLAGE) {
                return at == NONE ? villageCount < MOST_VILLAGES : hasVillage(at);
            }
            if (sort == TELLING) {
                return at == NONE ? tellingCount < MOST_TELLINGS : hasTelling(at);
            }
            return false;
        }

        int keep(Village village, int at) {
            int place = at == NONE ? villageCount++ : at;
            villages[place].copy(village);
            return place;
        }

        int keep(Telling telling, int at) {
            int place = at == NONE ? tellingCount++ : at;
            tellings[place].copy(telling);
            return place;
        }
    }

    /** Takes the tape as a text: what it tells, or its fault. */
    private static final class Reader {
        private static final int END = 0;
        private static final int LETTERS = 1;
        private static final int NUMBER = 2;
        private static final int STOP = 3;
        private static final int STRAY = 4;

        // the words that begin a line, those of a village first, the kinds in their order
        private static final int PEOPLE = 0;
        private static final int KIND = 1;
        private static final int DOUBT = 7;
        private static final int TIE = 8;
        private static final int SLOW = 9;
        private static final int TIRES = 10;
        private static final int ACT = 11;
        private static final int WALL_ACT = 13;
        private static final int WORDS = 14;

        final Village village = new Village();
        final Telling telling = new Telling();
        int flaw;
        int flawAt;
        private Tape tape;
        private int place;
        private int token;
        private int tokenAt;
        private int number;
        private int greatest;
        private final int[] numbers = new int[4];

        void read(int sort, Tape from) {
            tape = from;
            place = 0;
            flaw = 0;
            flawAt = NONE;
            greatest = 0;
            village.clear();
            telling.acts = 0;
            readLines(sort);
            if (flaw == 0 && sort == VILLAGE && greatest >= village.people) {
                flaw = 4;
                flawAt = tape.length;
            }
        }

        private void readLines(int sort) {
            next();
            boolean goesOn = true;
            for (int line = 0; line <= Tape.SIZE && goesOn; line++) {
                goesOn = token != END && readLine(sort);
            }
        }

        /** Reads a line and the first token behind it; false: no text goes on so. */
        private boolean readLine(int sort) {
            int word = token == LETTERS ? wordOf(sort) : NONE;
            if (word == NONE) {
                return stray();
            }
            if (word == TIE && village.ties >= MOST_TIES || word >= ACT && telling.acts >= Telling.MOST_ACTS) {
                blame(3);
            }
            next();
            int many = 0;
            for (; many < Tape.SIZE && token == NUMBER && (many < needed(word) || isKind(word)); many++) {
                accept(word, many);
                next();
            }
            if (many < needed(word) || token != STOP) {
                return stray();
            }
            if (flaw == 0) {
                tell(word);
            }
            next();
            return true;
        }

        private boolean stray() {
            flaw = 1;
            flawAt = tokenAt;
            return false;
        }

        /** The text is read in the order of its places, so the first one blamed is the first by place. */
        private void blame(int what) {
            if (flaw == 0) {
                flaw = what;
                flawAt = tokenAt;
            }
        }

        private void accept(int word, int at) {
            if (!mayBe(word, at)) {
                blame(2);
                return;
            }
            if (at < numbers.length) {
                numbers[at] = number;
            }
            if (isPerson(word, at)) {
                greatest = Math.max(greatest, number);
            }
            if (isKind(word) && flaw == 0) {
                village.kind[number] = word - KIND;
            }
        }

        private void tell(int word) {
            switch (word) {
                case PEOPLE: village.people = numbers[0]; break;
                case DOUBT: village.doubt[numbers[0]] = numbers[1]; break;
                case TIE: village.addTie(numbers[0], numbers[1], numbers[2], numbers[3]); break;
                case SLOW: village.slow = numbers[0]; break;
                case TIRES:
                    village.wordTires = numbers[0];
                    village.denialTires = numbers[1];
                    break;
                default:
                    if (word >= ACT) {
                        telling.addAct(word - ACT, numbers[0], numbers[1], word == WALL_ACT ? numbers[2] : NONE);
                    }
            }
        }

        /** Whether the number that was read can be the one of this place in its line. */
        private boolean mayBe(int word, int at) {
            if (isPerson(word, at)) {
                return number < ROOM && !(word == TIE && at == 1 && number == numbers[0]);
            }
            switch (word) {
                case PEOPLE: return number >= 1 && number <= ROOM;
                case DOUBT: return number >= 1;
                case TIE: return number >= 1 && number <= (at == 2 ? 3 : 9);
                case SLOW: return number <= 3;
                case TIRES: return number <= 30;
                case WALL_ACT: return at == 0 ? number < MOST_TIES : at == 1 || number >= numbers[1];
                default: return at == 0 || number < ROOM;
            }
        }

        private static boolean isKind(int word) {
            return word >= KIND && word < KIND + KINDS;
        }

        /** Whether a number of a village's line tells of somebody. */
        private static boolean isPerson(int word, int at) {
            return isKind(word) || word == DOUBT && at == 0 || word == TIE && at <= 1;
        }

        private static int needed(int word) {
            switch (word) {
                case TIE: return 4;
                case WALL_ACT: return 3;
                case DOUBT: return 2;
                case TIRES: return 2;
                default: return word >= ACT ? 2 : 1;
            }
        }

        private void next() {
            while (place < tape.length && (tape.at(place) == ' ' || tape.at(place) == '\n')) {
                place++;
            }
            tokenAt = place;
            int first = tape.at(place);
            if (first == NONE) {
                token = END;
            } else if (isLetter(first)) {
                token = LETTERS;
                while (place < tape.length && isLetter(tape.at(place))) {
                    place++;
                }
            } else if (isDigit(first)) {
                readNumber();
            } else {
                token = first == ';' ? STOP : STRAY;
                place++;
            }
        }

        private void readNumber() {
            number = 0;
            while (place < tape.length && isDigit(tape.at(place))) {
                // a row too long is refused below: its value is free, but must not overflow
                number = (number * 10 + tape.at(place) - '0') % 1000;
                place++;
            }
            token = place - tokenAt <= 2 ? NUMBER : STRAY;
        }

        private static boolean isLetter(int sign) {
            return sign >= 'a' && sign <= 'z';
        }

        private static boolean isDigit(int sign) {
            return sign >= '0' && sign <= '9';
        }

        private int wordOf(int sort) {
            int first = sort == VILLAGE ? PEOPLE : ACT;
            int behind = sort == VILLAGE ? ACT : WORDS;
            for (int word = first; word < behind; word++) {
                if (spells(spelling(word))) {
                    return word;
                }
            }
            return NONE;
        }

        private boolean spells(String word) {
            if (place - tokenAt != word.length()) {
                return false;
            }
            for (int i = 0; i < word.length(); i++) {
                if (tape.at(tokenAt + i) != word.charAt(i)) {
                    return false;
                }
            }
            return true;
        }

        private static String spelling(int word) {
            switch (word) {
                case PEOPLE: return "people";
                case KIND + FIRST: return "first";
                case KIND + LAST: return "last";
                case KIND + MOST: return "most";
                case KIND + TILL: return "till";
                case KIND + BOTH: return "both";
                case KIND + ONCE: return "once";
                case DOUBT: return "doubt";
                case TIE: return "tie";
                case SLOW: return "slow";
                case TIRES: return "tires";
                case ACT + WORD: return "word";
                case ACT + DENY: return "deny";
                default: return "wall";
            }
        }
    }

    /** A telling laid out by days. */
    private static final class Plan {
        static final int AMOUNT = 9;

        private final int[] words = new int[ACT_DAYS * ROOM];
        private final int[] denials = new int[ACT_DAYS * ROOM];
        private final int[] told = new int[ACT_DAYS];
        private final long[] walls = new long[ACT_DAYS];
        int lastDay;
        int lastWall;

        void set(Telling telling) {
            Arrays.fill(words, 0);
            Arrays.fill(denials, 0);
            Arrays.fill(told, 0);
            Arrays.fill(walls, 0L);
            lastDay = 0;
            lastWall = 0;
            if (telling == null) {
                return;
            }
            for (int act = 0; act < telling.acts; act++) {
                if (telling.sort[act] == WALL) {
                    raise(telling.first[act], telling.second[act], telling.third[act]);
                } else {
                    tell(telling.sort[act], telling.first[act], telling.second[act]);
                }
            }
        }

        private void raise(int tie, int since, int until) {
            for (int day = since; day <= until && day < ACT_DAYS; day++) {
                walls[day] |= 1L << tie;
            }
            lastWall = Math.max(lastWall, until);
            lastDay = Math.max(lastDay, until);
        }

        private void tell(int sort, int day, int person) {
            int[] rows = sort == WORD ? words : denials;
            rows[day * ROOM + person] += AMOUNT;
            told[day] |= 1 << person;
            lastDay = Math.max(lastDay, day);
        }

        int amount(int day, int person, boolean deny) {
            if (day >= ACT_DAYS) {
                return 0;
            }
            return deny ? denials[day * ROOM + person] : words[day * ROOM + person];
        }

        int toldOn(int day) {
            return day < ACT_DAYS ? told[day] : 0;
        }

        long wallsOn(int day) {
            return day < ACT_DAYS ? walls[day] : 0L;
        }
    }

    /** What a run is given: a plan, and what a what-if adds to it or takes from it. */
    private static final class Given {
        final Plan plan = new Plan();
        /** Only the walls of the plan count, and those are told the word on day 0. */
        boolean alone;
        int begin;
        int denied;
        int denyFrom;
        int denyTo;
        int silent;
        long dead;
        long barred;
        int barFrom;

        void plain() {
            alone = false;
            begin = 0;
            denied = 0;
            silent = 0;
            dead = 0L;
            barred = 0L;
        }

        void beginBy(int some) {
            alone = true;
            begin = some;
        }

        void deny(int some, int since, int until) {
            denied = some;
            denyFrom = since;
            denyTo = until;
        }

        void bar(long some, int since) {
            barred = some;
            barFrom = since;
        }

        int lastDay() {
            int last = alone ? plan.lastWall : plan.lastDay;
            if (denied != 0) {
                last = Math.max(last, denyTo);
            }
            return barred == 0L ? last : Math.max(last, barFrom);
        }

        private boolean isDenyDay(int day) {
            return day >= denyFrom && day <= denyTo;
        }

        /** All to whom word or denial comes from outside that day. */
        int toldOn(int day) {
            int some = alone ? (day == 0 ? begin : 0) : plan.toldOn(day);
            return isDenyDay(day) ? some | denied : some;
        }

        int amount(int day, int person, boolean deny) {
            int sum = 0;
            if (!alone) {
                sum = plan.amount(day, person, deny);
            } else if (!deny && day == 0 && (begin >> person & 1) != 0) {
                sum = Plan.AMOUNT;
            }
            if (deny && isDenyDay(day) && (denied >> person & 1) != 0) {
                sum += Plan.AMOUNT;
            }
            return sum;
        }

        long openOn(int day) {
            long shut = dead | plan.wallsOn(day);
            return day >= barFrom ? ~(shut | barred) : ~shut;
        }
    }

    /** What a run leaves, by days; rows have ROOM places for each day. */
    private static final class Days {
        static final int MANY = LAST_DAY + 1;
        // a denial comes six days later at most
        static final int AHEAD = 6;

        final int[] word = new int[MANY];
        final int[] denial = new int[MANY];
        final int[] saysWord = new int[MANY];
        final int[] saysDenial = new int[MANY];
        final long[] wordTies = new long[MANY];
        final long[] denialTies = new long[MANY];
        final int[] sums = new int[MANY * ROOM];
        final int[] wordCounts = new int[MANY * ROOM];
        final int[] denialCounts = new int[MANY * ROOM];
        final int[] wordComes = new int[(MANY + AHEAD) * ROOM];
        final int[] denialComes = new int[(MANY + AHEAD) * ROOM];
        final int[] comesTo = new int[MANY + AHEAD];
        // days of the same state have the same print; few others have
        final long[] print = new long[MANY];
        int ringDay;
        int ringLength;
        int reached;

        int holdersOn(int day) {
            return word[day] & ~denial[day];
        }

        int has(int day, int person) {
            return word[day] >> person & 1 | (denial[day] >> person & 1) << 1;
        }

        int says(int day, int person) {
            return saysWord[day] >> person & 1 | (saysDenial[day] >> person & 1) << 1;
        }

        boolean isClean() {
            if (ringDay == NONE) {
                return false;
            }
            for (int day = ringDay; day < ringDay + ringLength && day < MANY; day++) {
                if (holdersOn(day) != 0) {
                    return false;
                }
            }
            return true;
        }

        /** How many hold on the day of the ring, or on the last day without one. */
        int endHolders() {
            return Integer.bitCount(holdersOn(ringDay == NONE ? LAST_DAY : ringDay));
        }

        int peak() {
            int best = 0;
            for (int day = 1; day <= LAST_DAY; day++) {
                if (Integer.bitCount(holdersOn(day)) > Integer.bitCount(holdersOn(best))) {
                    best = day;
                }
            }
            return best;
        }

        int half(int people) {
            for (int day = 0; day <= LAST_DAY; day++) {
                if (2 * Integer.bitCount(holdersOn(day)) >= people) {
                    return day;
                }
            }
            return NONE;
        }

        int heldBy(int person, int until) {
            int held = 0;
            for (int day = 0; day <= until; day++) {
                held += holdersOn(day) >> person & 1;
            }
            return held;
        }

        /** Also right when the run stopped at its ring: later days only bring its days again. */
        int everHolders() {
            int ever = 0;
            for (int day = 0; day <= reached; day++) {
                ever |= holdersOn(day);
            }
            return ever;
        }

        int quietFrom() {
            int from = LAST_DAY + 1;
            while (from > 0 && saysWord[from - 1] == 0) {
                from--;
            }
            return from;
        }

        int lastHeldDay() {
            int day = LAST_DAY;
            while (day >= 0 && holdersOn(day) == 0) {
                day--;
            }
            return day;
        }

        int firmFrom(int since) {
            int other = 0;
            for (int day = since + 1; day <= LAST_DAY; day++) {
                other |= word[day] ^ word[since] | denial[day] ^ denial[since];
            }
            return ~other;
        }

        int changesOf(int person) {
            int changes = has(0, person) == 0 ? 0 : 1;
            for (int day = 1; day <= LAST_DAY; day++) {
                if (has(day, person) != has(day - 1, person)) {
                    changes++;
                }
            }
            return changes;
        }

        void clearComing(int day) {
            Arrays.fill(wordComes, day * ROOM, day * ROOM + ROOM, 0);
            Arrays.fill(denialComes, day * ROOM, day * ROOM + ROOM, 0);
            comesTo[day] = 0;
        }

        /** A day begins with what the one ahead of it left. */
        void openDay(int day) {
            clearComing(day + AHEAD);
            int row = day * ROOM;
            if (day == 0) {
                word[0] = 0;
                denial[0] = 0;
                print[0] = 0L;
                Arrays.fill(sums, 0, ROOM, 0);
                Arrays.fill(wordCounts, 0, ROOM, 0);
                Arrays.fill(denialCounts, 0, ROOM, 0);
                return;
            }
            word[day] = word[day - 1];
            denial[day] = denial[day - 1];
            print[day] = print[day - 1];
            System.arraycopy(sums, row - ROOM, sums, row, ROOM);
            System.arraycopy(wordCounts, row - ROOM, wordCounts, row, ROOM);
            System.arraycopy(denialCounts, row - ROOM, denialCounts, row, ROOM);
        }

        /** Whether all but what is still to come is the same. */
        boolean isAlike(int one, int other) {
            if (print[one] != print[other] || word[one] != word[other] || denial[one] != denial[other]) {
                return false;
            }
            for (int i = 0; i < ROOM; i++) {
                int a = one * ROOM + i;
                int b = other * ROOM + i;
                if (sums[a] != sums[b] || wordCounts[a] != wordCounts[b] || denialCounts[a] != denialCounts[b]) {
                    return false;
                }
            }
            return true;
        }
    }

    /** Lets a village live day by day by what it is given. */
    private static final class Run {
        private static final int SUM_END = 99;
        private static final long MIX = 6364136223846793005L;

        /** A copy of its own, so that what-ifs may change it. */
        final Village village = new Village();
        final Given given = new Given();
        final Days days = new Days();
        private final long[] tiesOf = new long[ROOM];
        private final long[] weights = new long[3 * ROOM];
        private final int[] balance = new int[ROOM];
        private int wordLimited;
        private int denialLimited;
        private int wordTired;
        private int denialTired;

        Run() {
            long weight = MIX;
            for (int i = 0; i < weights.length; i++) {
                weights[i] = weight;
                weight *= MIX;
            }
        }

        /**
         * Lives the days since .. until, or (tillRing) until a state has come again.
         * Since a later day than 0: the days ahead of it stand as they were lived before.
         */
        void live(int since, int until, boolean tillRing) {
            if (since == 0) {
                begin();
            } else {
                takeUp(since);
            }
            days.ringDay = NONE;
            days.ringLength = NONE;
            days.reached = since - 1;
            int last = given.lastDay();
            for (int day = since; day <= until && day <= LAST_DAY; day++) {
                liveDay(day);
                days.reached = day;
                if (days.ringDay == NONE) {
                    findRing(day, last);
                }
                if (tillRing && days.ringDay != NONE) {
                    return;
                }
            }
        }

        private void begin() {
            Arrays.fill(tiesOf, 0L);
            for (int tie = 0; tie < village.ties; tie++) {
                tiesOf[village.from[tie]] |= 1L << tie;
            }
            wordLimited = 0;
            denialLimited = 0;
            for (int person = 0; person < village.people; person++) {
                wordLimited |= village.limit(person, false) > 0 ? 1 << person : 0;
                denialLimited |= village.limit(person, true) > 0 ? 1 << person : 0;
            }
            wordTired = 0;
            denialTired = 0;
            for (int day = 0; day < Days.AHEAD; day++) {
                days.clearComing(day);
            }
        }

        /** Makes again what stands open at the end of the day ahead. */
        private void takeUp(int day) {
            int row = (day - 1) * ROOM;
            wordTired = 0;
            denialTired = 0;
            for (int person = 0; person < village.people; person++) {
                wordTired |= isTired(days.wordCounts[row + person], person, false) ? 1 << person : 0;
                denialTired |= isTired(days.denialCounts[row + person], person, true) ? 1 << person : 0;
            }
            for (int ahead = 0; ahead < Days.AHEAD; ahead++) {
                days.clearComing(day + ahead);
            }
            for (int said = Math.max(0, day - Days.AHEAD); said < day; said++) {
                carry(said, false, day);
                carry(said, true, day);
            }
        }

        private boolean isTired(int count, int person, boolean deny) {
            int limit = village.limit(person, deny);
            return limit > 0 && count >= limit;
        }

        private void liveDay(int day) {
            days.openDay(day);
            int some = (days.comesTo[day] | given.toldOn(day)) & village.all();
            for (int person = 0; person < village.people; person++) {
                if ((some >> person & 1) != 0) {
                    hear(day, person);
                }
            }
            days.saysWord[day] = days.word[day] & ~given.silent & ~wordTired;
            days.saysDenial[day] = days.denial[day] & ~given.silent & ~denialTired;
            wordTired |= countSaid(day, days.saysWord[day] & wordLimited, false);
            denialTired |= countSaid(day, days.saysDenial[day] & denialLimited, true);
            long open = given.openOn(day);
            days.wordTies[day] = tiesFrom(days.saysWord[day]) & open;
            days.denialTies[day] = tiesFrom(days.saysDenial[day]) & open;
            carry(day, false, day);
            carry(day, true, day);
        }

        /** What comes to one on a day, whatever his doubt. */
        private int comes(int day, int person, boolean deny) {
            int place = day * ROOM + person;
            return given.amount(day, person, deny) + (deny ? days.denialComes[place] : days.wordComes[place]);
        }

        int hears(int day, int person, boolean deny) {
            int amount = comes(day, person, deny);
            return amount < village.doubt[person] ? 0 : amount;
        }

        private void hear(int day, int person) {
            int w = hears(day, person, false);
            int d = hears(day, person, true);
            boolean hasNone = days.has(day, person) == 0;
            switch (village.kind[person]) {
                case LAST:
                    if (w != d) {
                        have(day, person, w > d);
                    }
                    break;
                case MOST:
                    weigh(day, person, w - d);
                    break;
                case TILL:
                    if (d > 0 || w > 0 && hasNone) {
                        have(day, person, d == 0);
                    }
                    break;
                case BOTH:
                    days.word[day] |= w > 0 ? 1 << person : 0;
                    days.denial[day] |= d > 0 ? 1 << person : 0;
                    break;
                default:
                    if (hasNone && (w > 0 || d > 0)) {
                        have(day, person, w >= d);
                    }
            }
        }

        /** One has the word alone, or the denial alone. */
        private void have(int day, int person, boolean isWord) {
            int bit = 1 << person;
            days.word[day] = isWord ? days.word[day] | bit : days.word[day] & ~bit;
            days.denial[day] = isWord ? days.denial[day] & ~bit : days.denial[day] | bit;
        }

        private void weigh(int day, int person, int more) {
            int place = day * ROOM + person;
            int sum = Math.max(-SUM_END, Math.min(SUM_END, days.sums[place] + more));
            days.print[day] += (sum - days.sums[place]) * weights[person];
            days.sums[place] = sum;
            if (sum != 0) {
                have(day, person, sum > 0);
            }
        }

        /** Counts a day on which some said it; answers those who tire by it. */
        private int countSaid(int day, int some, boolean deny) {
            int tired = 0;
            int[] counts = deny ? days.denialCounts : days.wordCounts;
            for (int person = 0; person < village.people && some != 0; person++) {
                if ((some >> person & 1) != 0) {
                    int place = day * ROOM + person;
                    counts[place]++;
                    days.print[day] += weights[(deny ? 2 : 1) * ROOM + person];
                    tired |= isTired(counts[place], person, deny) ? 1 << person : 0;
                }
            }
            return tired;
        }

        private long tiesFrom(int some) {
            long ties = 0L;
            for (int person = 0; person < village.people && some != 0; person++) {
                if ((some >> person & 1) != 0) {
                    ties |= tiesOf[person];
                }
            }
            return ties;
        }

        /** Brings what was said on a day where it comes from a day on. */
        private void carry(int said, boolean deny, int since) {
            long rest = deny ? days.denialTies[said] : days.wordTies[said];
            int[] rows = deny ? days.denialComes : days.wordComes;
            int slow = deny ? village.slow : 0;
            for (int i = 0; i < village.ties && rest != 0L; i++) {
                int tie = Long.bitCount((rest & -rest) - 1);
                rest &= rest - 1;
                int day = said + village.days[tie] + slow;
                if (day >= since) {
                    rows[day * ROOM + village.to[tie]] += village.strength[tie];
                    days.comesTo[day] |= 1 << village.to[tie];
                }
            }
        }

        private void findRing(int day, int last) {
            for (int early = last; early < day; early++) {
                if (days.isAlike(early, day) && awaitsSame(early, day)) {
                    days.ringDay = early;
                    days.ringLength = day - early;
                    return;
                }
            }
        }

        /** Whether at the end of both days as much is still to come to each one, day by day. */
        private boolean awaitsSame(int one, int other) {
            return awaitsSame(one, other, false) && awaitsSame(one, other, true);
        }

        private boolean awaitsSame(int one, int other, boolean deny) {
            boolean differs = false;
            for (int ago = 0; ago < Days.AHEAD && !differs; ago++) {
                differs = tiesAgo(one, ago, deny) != tiesAgo(other, ago, deny);
            }
            // by other ties it may still be as much
            for (int ahead = 1; ahead <= Days.AHEAD && differs; ahead++) {
                Arrays.fill(balance, 0);
                for (int tie = 0; tie < village.ties; tie++) {
                    int ago = village.days[tie] + (deny ? village.slow : 0) - ahead;
                    long more = (tiesAgo(one, ago, deny) >> tie & 1L) - (tiesAgo(other, ago, deny) >> tie & 1L);
                    balance[village.to[tie]] += (int) more * village.strength[tie];
                }
                for (int person = 0; person < village.people; person++) {
                    if (balance[person] != 0) {
                        return false;
                    }
                }
            }
            return true;
        }

        /** The ties by which it went some days ahead of a day. */
        private long tiesAgo(int day, int ago, boolean deny) {
            int said = day - ago;
            if (ago < 0 || said < 0) {
                return 0L;
            }
            return deny ? days.denialTies[said] : days.wordTies[said];
        }

        int firstHeard(int person, boolean deny) {
            for (int day = 0; day <= LAST_DAY; day++) {
                if (comes(day, person, deny) > 0) {
                    return day;
                }
            }
            return NONE;
        }

        int heardFrom(int person, int day, boolean deny) {
            int least = NONE;
            for (int tie = 0; tie < village.ties; tie++) {
                int ago = village.days[tie] + (deny ? village.slow : 0);
                boolean brings = village.to[tie] == person && (tiesAgo(day, ago, deny) >> tie & 1L) != 0L;
                if (brings && (least == NONE || village.from[tie] < least)) {
                    least = village.from[tie];
                }
            }
            return least;
        }

        /** How many tellers of the word stand behind one (k NONE), or the k-th of them. */
        int tellersBehind(int person, int k) {
            int seen = 1 << person;
            int many = 0;
            int one = person;
            boolean goesOn = true;
            for (int i = 0; i <= village.people && goesOn; i++) {
                int day = firstHeard(one, false);
                one = day == NONE ? NONE : heardFrom(one, day, false);
                if (one != NONE && many == k) {
                    return one;
                }
                many += one == NONE ? 0 : 1;
                goesOn = one != NONE && (seen >> one & 1) == 0;
                seen |= one == NONE ? 0 : 1 << one;
            }
            return k == NONE ? many : NOT_THERE;
        }
    }

    /** Tries what-ifs on a run; each search begins with the run as it is given. */
    private static final class Search {
        private static final int OFTEN = 9;
        private static final int LATEST = 40;
        private static final int DOUBTS = 99;

        private final Run life;
        private final Village village;
        private final Given given;
        private final Days days;

        Search(Run run) {
            life = run;
            village = run.village;
            given = run.given;
            days = run.days;
        }

        private static long firstSet(int size) {
            return (1L << size) - 1;
        }

        /** The next greater number of as many bits; a greater one than any set if there is none. */
        private static long nextSet(long set) {
            long low = set & -set;
            if (low == 0L) {
                return Long.MAX_VALUE;
            }
            long up = set + low;
            return up | ((up ^ set) / low) >> 2;
        }

        /** Whether it is clean when the days since one are lived (again). */
        private boolean isCleanSince(int since) {
            life.live(since, LAST_DAY, true);
            return days.isClean();
        }

        int leastCure(int day, int most) {
            if (isCleanSince(0)) {
                return 0;
            }
            life.live(0, day - 1, false);
            return leastDenied(day, most);
        }

        /** The days ahead stand lived. */
        private int leastDenied(int day, int most) {
            for (int size = 1; size <= most; size++) {
                for (long set = firstSet(size); set <= village.all(); set = nextSet(set)) {
                    given.deny((int) set, day, day);
                    if (isCleanSince(day)) {
                        return (int) set;
                    }
                }
            }
            return NONE;
        }

        int lastCureDay(int most) {
            if (isCleanSince(0)) {
                return LATEST;
            }
            life.live(0, LATEST - 1, false);
            for (int day = LATEST; day >= 0; day--) {
                if (leastDenied(day, most) != NONE) {
                    return day;
                }
            }
            return NONE;
        }

        int howManyCures(int day, int size) {
            if (size == 0) {
                return isCleanSince(0) ? 1 : 0;
            }
            life.live(0, day - 1, false);
            int many = 0;
            for (long set = firstSet(size); set <= village.all(); set = nextSet(set)) {
                given.deny((int) set, day, day);
                many += isCleanSince(day) ? 1 : 0;
            }
            return many;
        }

        int fewestDenials(int day, int person) {
            life.live(0, day - 1, false);
            for (int many = 1; many <= OFTEN; many++) {
                given.deny(1 << person, day, day + many - 1);
                if (isCleanSince(day)) {
                    return many;
                }
            }
            return NONE;
        }

        long leastBarred(int day, int most) {
            if (isCleanSince(0)) {
                return 0L;
            }
            life.live(0, day - 1, false);
            for (int size = 1; size <= most; size++) {
                for (long set = firstSet(size); set < 1L << village.ties; set = nextSet(set)) {
                    given.bar(set, day);
                    if (isCleanSince(day)) {
                        return set;
                    }
                }
            }
            return NONE;
        }

        private int holdersBegunBy(int some, int day) {
            given.beginBy(some);
            life.live(0, day, false);
            return days.holdersOn(day);
        }

        /** How many sets of one or two (k NONE), or the k-th by numbers. */
        int beginnings(int day, int holders, int k) {
            int many = 0;
            for (int high = 0; high < village.people; high++) {
                for (int low = NONE; low < high; low++) {
                    int set = low == NONE ? 1 << high : 1 << high | 1 << low;
                    if (holdersBegunBy(set, day) == holders) {
                        if (many == k) {
                            return set;
                        }
                        many++;
                    }
                }
            }
            return k == NONE ? many : NOT_THERE;
        }

        int nearestBeginning(int day, int holders, boolean far) {
            int best = NONE;
            int least = Integer.MAX_VALUE;
            for (int person = 0; person < village.people; person++) {
                int differ = Integer.bitCount(holdersBegunBy(1 << person, day) ^ holders);
                if (differ < least) {
                    least = differ;
                    best = person;
                }
            }
            return far ? least : best;
        }

        private int endHolders() {
            life.live(0, LAST_DAY, true);
            return days.endHolders();
        }

        private int endWithSilent(int person) {
            given.silent = 1 << person;
            return endHolders();
        }

        int weightOf(int person) {
            return endHolders() - endWithSilent(person);
        }

        int bestSilent() {
            int best = NONE;
            int least = Integer.MAX_VALUE;
            for (int person = 0; person < village.people; person++) {
                int holders = endWithSilent(person);
                if (holders < least) {
                    least = holders;
                    best = person;
                }
            }
            return best;
        }

        int bestWithoutTie() {
            int best = NONE;
            int least = Integer.MAX_VALUE;
            for (int tie = 0; tie < village.ties; tie++) {
                given.dead = 1L << tie;
                int holders = endHolders();
                if (holders < least) {
                    least = holders;
                    best = tie;
                }
            }
            return best;
        }

        private void draw(int seed) {
            int x = seed;
            given.dead = 0L;
            for (int tie = 0; tie < village.ties; tie++) {
                x = x * 1103515245 + 12345;
                if ((x >>> 16) % 10 >= village.strength[tie]) {
                    given.dead |= 1L << tie;
                }
            }
        }

        int drawnWorld(int seed, int day, boolean holders) {
            draw(seed);
            if (!holders) {
                return isCleanSince(0) ? 1 : 0;
            }
            life.live(0, day, false);
            return days.holdersOn(day);
        }

        int drawnWorlds(int seed, int worlds, int day, boolean holders) {
            int sum = 0;
            for (int i = 0; i < worlds; i++) {
                int world = drawnWorld(seed + i, day, holders);
                sum += holders ? Integer.bitCount(world) : world;
            }
            return sum;
        }

        int firstJoin(boolean wantsTo) {
            int ties = village.ties;
            for (int from = 0; from < village.people; from++) {
                for (int to = 0; to < village.people; to++) {
                    village.ties = ties;
                    village.addTie(from, to, 1, 9);
                    if (from != to && isCleanSince(0)) {
                        return wantsTo ? to : from;
                    }
                }
            }
            return NONE;
        }

        int firstUnlike(Telling other) {
            life.live(0, LAST_DAY, false);
            // the days of the first telling wait in rows that the second run leaves alone
            int[] firsts = new int[Days.MANY];
            for (int day = 0; day <= LAST_DAY; day++) {
                firsts[day] = days.holdersOn(day);
            }
            given.plan.set(other);
            life.live(0, LAST_DAY, false);
            for (int day = 0; day <= LAST_DAY; day++) {
                if (firsts[day] != days.holdersOn(day)) {
                    return day;
                }
            }
            return NONE;
        }

        private int everHolders() {
            life.live(0, LAST_DAY, true);
            return days.everHolders();
        }

        int leastShield(int person, int most) {
            for (int size = 0; size <= most; size++) {
                for (long set = firstSet(size); set <= village.all(); set = nextSet(set)) {
                    given.silent = (int) set;
                    if ((set >> person & 1) == 0 && (everHolders() >> person & 1) == 0) {
                        return (int) set;
                    }
                }
            }
            return NONE;
        }

        int widestBeginning(boolean wantsNumber) {
            int best = NONE;
            int most = NONE;
            for (int person = 0; person < village.people; person++) {
                given.beginBy(1 << person);
                int ever = Integer.bitCount(everHolders());
                if (ever > most) {
                    most = ever;
                    best = person;
                }
            }
            return wantsNumber ? most : best;
        }

        int longestBeginning(boolean wantsLength) {
            int best = NONE;
            int most = NONE;
            for (int person = 0; person < village.people; person++) {
                given.beginBy(1 << person);
                life.live(0, LAST_DAY, true);
                int length = Math.max(0, days.ringLength);
                if (length > most) {
                    most = length;
                    best = person;
                }
            }
            return wantsLength ? most : best;
        }

        int leastDeafDoubt(int person) {
            for (int doubt = 1; doubt <= DOUBTS; doubt++) {
                village.doubt[person] = doubt;
                if ((everHolders() >> person & 1) == 0) {
                    return doubt;
                }
            }
            return NONE;
        }

        int bestTurned(int kind, boolean wantsEnd) {
            int best = NONE;
            int least = Integer.MAX_VALUE;
            for (int person = 0; person < village.people; person++) {
                int before = village.kind[person];
                village.kind[person] = kind;
                int holders = endHolders();
                village.kind[person] = before;
                if (holders < least) {
                    least = holders;
                    best = person;
                }
            }
            return wantsEnd ? least : best;
        }
    }

    /** The ways of a village by its ties, whatever anybody says. */
    private static final class Ways {
        private static final int NEVER = 1000000;

        private final int[] comeBy = new int[ROOM];
        private final int[] far = new int[ROOM];
        private long taken;

        int forward(Village village, int person) {
            taken = 0L;
            return reached(village, person);
        }

        /** Ties that are all taken can be gone back alone. */
        int backward(Village village, int person) {
            taken = -1L;
            return reached(village, person);
        }

        /** All whom one comes to by ties not taken, forward, and by taken ones, back. */
        private int reached(Village village, int person) {
            int seen = 1 << person;
            int before = 0;
            for (int round = 0; round < ROOM && seen != before; round++) {
                before = seen;
                for (int tie = 0; tie < village.ties; tie++) {
                    boolean back = (taken >> tie & 1L) != 0L;
                    int from = back ? village.to[tie] : village.from[tie];
                    int to = back ? village.from[tie] : village.to[tie];
                    if ((seen >> from & 1) != 0 && (seen >> to & 1) == 0) {
                        seen |= 1 << to;
                        comeBy[to] = tie;
                    }
                }
            }
            return seen;
        }

        int mostApart(Village village, int from, int to) {
            int many = 0;
            taken = 0L;
            while (many < village.ties && (reached(village, from) >> to & 1) != 0) {
                takeWay(village, from, to);
                many++;
            }
            return many;
        }

        /** Takes the ties of the way that was found, and gives back those it goes back. */
        private void takeWay(Village village, int from, int to) {
            int person = to;
            for (int step = 0; step < ROOM && person != from; step++) {
                int tie = comeBy[person];
                person = (taken >> tie & 1L) != 0L ? village.to[tie] : village.from[tie];
                taken ^= 1L << tie;
            }
        }

        long nearestCut(Village village, int from, int to) {
            mostApart(village, from, to);
            int near = reached(village, from);
            long cut = 0L;
            for (int tie = 0; tie < village.ties; tie++) {
                if ((near >> village.from[tie] & 1) != 0 && (near >> village.to[tie] & 1) == 0) {
                    cut |= 1L << tie;
                }
            }
            return cut;
        }

        int fewestDays(Village village, int from, int to, boolean deny) {
            int slow = deny ? village.slow : 0;
            Arrays.fill(far, NEVER);
            far[from] = 0;
            for (int round = 0; round < ROOM; round++) {
                for (int tie = 0; tie < village.ties; tie++) {
                    int days = far[village.from[tie]] + village.days[tie] + slow;
                    far[village.to[tie]] = Math.min(far[village.to[tie]], days);
                }
            }
            return far[to] < NEVER ? far[to] : NONE;
        }
    }
}
