import java.util.Arrays;

/** Villages of people who tell one another a word and its denial, both told as texts. */
public final class SaidBack {
    public static final int NONE = -1;

    private static final int NOT_THERE = -2;
    private static final int FAR_OFF = -1000;
    private static final int VILLAGE = 0;
    private static final int TELLING = 1;
    private static final int IMAGES = 3;
    private static final int ROOM = 16;
    private static final int KINDS = 6;
    private static final int MOST_TIES = 40;
    private static final int LAST_DAY = 200;
    private static final int DAYS = LAST_DAY + 1;
    private static final int ACT_DAYS = 100;

    private static final int FIRST = 0;
    private static final int LAST = 1;
    private static final int MOST = 2;
    private static final int TILL = 3;
    private static final int BOTH = 4;
    private static final int ONCE = 5;

    private static final int WORD = 0;
    private static final int DENY = 1;
    private static final int WALL = 2;

    private final Book book;
    private final Book[] images;
    private final boolean[] taken;
    private final Reader reader;
    private final Search search;
    private final Run life;
    private final Days days;
    private final Ways ways;

    public SaidBack() {
        book = new Book();
        images = new Book[IMAGES];
        for (int i = 0; i < IMAGES; i++) {
            images[i] = new Book();
        }
        taken = new boolean[IMAGES];
        reader = new Reader();
        life = new Run();
        days = life.days;
        search = new Search(life);
        ways = new Ways();
    }

    public int feed(int a, int b, int c, int d, int e) {
        Tape tape = book.tape;
        if (!tape.hasRoom()) {
            return NONE;
        }
        tape.put(a);
        tape.put(b);
        tape.put(c);
        tape.put(d);
        tape.put(e);
        return tape.length;
    }

    public int end(int n) {
        if (n < 0 || n > book.tape.length) {
            return NONE;
        }
        book.tape.length = n;
        return n;
    }

    public int text(int sort, int at) {
        boolean fits = book.fits(sort, at);
        if (fits) {
            reader.read(sort, book.tape);
        }
        book.tape.length = 0;
        book.flaw = fits ? reader.flaw : 0;
        book.flawAt = fits ? reader.flawAt : NONE;
        if (!fits) {
            return NOT_THERE;
        }
        if (book.flaw != 0) {
            return NONE;
        }
        return sort == VILLAGE ? book.keep(reader.village, at) : book.keep(reader.telling, at);
    }

    public int fault(int what) {
        if (what == 0) {
            return book.flaw;
        }
        return what == 1 ? book.flawAt : NONE;
    }

    public int village(int village, int what) {
        if (!book.hasVillage(village)) {
            return NONE;
        }
        Village of = book.villages[village];
        if (of.has(what - 10)) {
            return of.kind[what - 10];
        }
        if (of.has(what - 30)) {
            return of.doubt[what - 30];
        }
        switch (what) {
            case 0: return of.people;
            case 1: return of.ties;
            case 2: return of.slow;
            case 3: return of.wordTires;
            case 4: return of.denialTires;
            default: return NONE;
        }
    }

    public int tie(int village, int tie, int what) {
        if (!book.hasVillage(village)) {
            return NONE;
        }
        Village of = book.villages[village];
        if (tie < 0 || tie >= of.ties) {
            return NONE;
        }
        switch (what) {
            case 0: return of.from[tie];
            case 1: return of.to[tie];
            case 2: return of.days[tie];
            case 3: return of.strength[tie];
            default: return NONE;
        }
    }

    public int act(int telling, int act, int what) {
        if (!book.hasTelling(telling)) {
            return NOT_THERE;
        }
        Telling of = book.tellings[telling];
        if (act == NONE && what == 0) {
            return of.acts;
        }
        if (act < 0 || act >= of.acts) {
            return NOT_THERE;
        }
        switch (what) {
            case 0: return of.sort[act];
            case 1: return of.first[act];
            case 2: return of.second[act];
            case 3: return of.third[act];
            default: return NOT_THERE;
        }
    }

    public int person(int village, int telling, int day, int person, int what) {
        if (!onDay(day, LAST_DAY) || !hasPerson(village, person) || !take(village, telling)) {
            return FAR_OFF;
        }
        life.live(0, day, false);
        switch (what) {
            case 0: return days.has(day, person);
            case 1: return life.hears(day, person, false);
            case 2: return life.hears(day, person, true);
            case 3: return days.sums[day * ROOM + person];
            case 4: return days.says(day, person);
            default: return FAR_OFF;
        }
    }

    public int holders(int village, int telling, int day, boolean deny) {
        if (!onDay(day, LAST_DAY) || !take(village, telling)) {
            return NONE;
        }
        life.live(0, day, false);
        return deny ? days.denial.has[day] : days.holdersOn(day);
    }

    public int run(int village, int telling, int what) {
        if (!take(village, telling)) {
            return NOT_THERE;
        }
        life.live(0, LAST_DAY, false);
        switch (what) {
            case 0: return days.ringDay;
            case 1: return days.ringLength;
            case 2: return days.isClean() ? 1 : 0;
            case 3: return life.given.lastDay();
            case 4: return days.peak();
            case 5: return Integer.bitCount(days.holdersOn(days.peak()));
            case 6: return days.half(life.village.people);
            default: return NOT_THERE;
        }
    }

    public int held(int village, int telling, int person, int n) {
        if (!onDay(n, LAST_DAY) || !hasPerson(village, person) || !take(village, telling)) {
            return NONE;
        }
        life.live(0, n, false);
        return days.heldBy(person, n);
    }

    public int heard(int village, int telling, int person, boolean deny, boolean from) {
        if (!hasPerson(village, person) || !take(village, telling)) {
            return NOT_THERE;
        }
        life.live(0, LAST_DAY, false);
        int day = life.firstHeard(person, deny);
        if (day == NONE) {
            return NOT_THERE;
        }
        return from ? life.heardFrom(person, day, deny) : day;
    }

    public int cure(int village, int telling, int day, int n) {
        if (!onDay(day, 99) || n < 0 || n > 3 || !take(village, telling)) {
            return NONE;
        }
        return search.leastCure(day, n);
    }

    public int late(int village, int telling, int n) {
        if (n < 0 || n > 2 || !take(village, telling)) {
            return NONE;
        }
        return search.lastCureDay(n);
    }

    public int begun(int village, int telling, int day, int holders, int k) {
        if (k < NONE || !onDay(day, 99) || !areThere(village, holders) || !take(village, telling)) {
            return NOT_THERE;
        }
        return search.beginnings(day, holders, k);
    }

    public int origin(int village, int telling, int day, int holders, boolean far) {
        if (!onDay(day, 99) || !areThere(village, holders) || !take(village, telling)) {
            return NONE;
        }
        return search.nearestBeginning(day, holders, far);
    }

    public int matters(int village, int telling, int person) {
        if (!hasPerson(village, person) || !take(village, telling)) {
            return FAR_OFF;
        }
        return search.weightOf(person);
    }

    public int key(int village, int telling, boolean tie) {
        if (!take(village, telling)) {
            return NONE;
        }
        return tie ? search.bestWithoutTie() : search.bestSilent();
    }

    public int apart(int village, int from, int to) {
        if (!areTwo(village, from, to)) {
            return NONE;
        }
        return ways.mostApart(book.villages[village], from, to);
    }

    public long cut(int village, int from, int to) {
        if (!areTwo(village, from, to)) {
            return NONE;
        }
        return ways.nearestCut(book.villages[village], from, to);
    }

    public int soon(int village, int from, int to, boolean deny) {
        if (!areTwo(village, from, to)) {
            return NONE;
        }
        return ways.fewestDays(book.villages[village], from, to, deny);
    }

    public int reach(int village, int person, int what) {
        if (!hasPerson(village, person)) {
            return NONE;
        }
        Village of = book.villages[village];
        switch (what) {
            case 0: return ways.forward(of, person);
            case 1: return ways.forward(of, person) & ways.backward(of, person);
            case 2: return of.strengthTo(person);
            default: return NONE;
        }
    }

    public int loud(int village) {
        return book.hasVillage(village) ? book.villages[village].loudest() : NONE;
    }

    public int drawn(int village, int telling, int seed, int day, int what) {
        if (!onDay(day, LAST_DAY) || what < 0 || what > 1 || !take(village, telling)) {
            return NONE;
        }
        if (what == 0) {
            return search.drawnHolders(seed, day);
        }
        return search.isDrawnClean(seed) ? 1 : 0;
    }

    public int worlds(int village, int telling, int seed, int w, int day, boolean holders) {
        if (!onDay(day, LAST_DAY) || w < 1 || w > 20 || !take(village, telling)) {
            return NONE;
        }
        return search.drawnWorlds(seed, w, day, holders);
    }

    public long barred(int village, int telling, int day, int n) {
        if (!onDay(day, 99) || n < 0 || n > 2 || !take(village, telling)) {
            return NONE;
        }
        return search.leastBarred(day, n);
    }

    public int join(int village, int telling, boolean to) {
        if (!take(village, telling)) {
            return NONE;
        }
        return search.firstJoin(to);
    }

    public int unlike(int village, int one, int other) {
        if (!take(village, one) || !isToldBy(other)) {
            return NONE;
        }
        return search.firstUnlike(book.tellingOrNull(other));
    }

    public int whole(int village, int telling, int what) {
        if (!take(village, telling)) {
            return NOT_THERE;
        }
        life.live(0, LAST_DAY, false);
        switch (what) {
            case 0: return days.everHolders();
            case 1: return days.quietFrom();
            case 2: return days.lastHeldDay();
            case 3: return days.firmFrom(days.peak()) & life.village.all();
            default: return NOT_THERE;
        }
    }

    public int wavers(int village, int telling, int person) {
        if (!hasPerson(village, person) || !take(village, telling)) {
            return NONE;
        }
        life.live(0, LAST_DAY, false);
        return days.changesOf(person);
    }

    public int often(int village, int telling, int day, int person) {
        if (!onDay(day, 90) || !hasPerson(village, person) || !take(village, telling)) {
            return NONE;
        }
        return search.fewestDenials(day, person);
    }

    public int cures(int village, int telling, int day, int n) {
        if (!onDay(day, 99) || n < 0 || n > 2 || !take(village, telling)) {
            return NONE;
        }
        return search.howManyCures(day, n);
    }

    public int shield(int village, int telling, int person, int n) {
        if (n < 0 || n > 2 || !hasPerson(village, person) || !take(village, telling)) {
            return NONE;
        }
        return search.leastShield(person, n);
    }

    public int worst(int village, int telling, int what) {
        if (!take(village, telling)) {
            return NONE;
        }
        switch (what) {
            case 0: return search.widestBeginning(false);
            case 1: return search.widestBeginning(true);
            case 2: return search.longestBeginning(false);
            case 3: return search.longestBeginning(true);
            default: return NONE;
        }
    }

    public int deaf(int village, int telling, int person) {
        if (!hasPerson(village, person) || !take(village, telling)) {
            return NONE;
        }
        return search.leastDeafDoubt(person);
    }

    public int turn(int village, int telling, int kind, boolean end) {
        if (kind < 0 || kind >= KINDS || !take(village, telling)) {
            return NONE;
        }
        return search.bestTurned(kind, end);
    }

    public int chain(int village, int telling, int person, int k) {
        if (k < NONE || !hasPerson(village, person) || !take(village, telling)) {
            return NOT_THERE;
        }
        life.live(0, LAST_DAY, false);
        return life.tellersBehind(person, k);
    }

    public int count(int sort) {
        if (sort == VILLAGE) {
            return book.villageCount;
        }
        return sort == TELLING ? book.tellingCount : NOT_THERE;
    }

    public boolean image(int k) {
        if (k < 0 || k >= IMAGES) {
            return false;
        }
        images[k].copy(book);
        taken[k] = true;
        return true;
    }

    public boolean again(int k) {
        if (k < 0 || k >= IMAGES || !taken[k]) {
            return false;
        }
        book.copy(images[k]);
        return true;
    }

    private static boolean onDay(int day, int last) {
        return day >= 0 && day <= last;
    }

    private boolean hasPerson(int village, int person) {
        return book.hasVillage(village) && book.villages[village].has(person);
    }

    private boolean areTwo(int village, int one, int other) {
        return one != other && hasPerson(village, one) && hasPerson(village, other);
    }

    private boolean areThere(int village, int some) {
        return book.hasVillage(village) && (some & ~book.villages[village].all()) == 0;
    }

    private boolean isToldBy(int telling) {
        return telling == NONE || book.hasTelling(telling);
    }

    /** Makes village and telling the ones that the next run is of; false if one is not there. */
    private boolean take(int village, int telling) {
        if (!book.hasVillage(village) || !isToldBy(telling)) {
            return false;
        }
        life.village.copy(book.villages[village]);
        life.given.set(book.tellingOrNull(telling), life.village.ties);
        return true;
    }

    /** The bytes that have come and are not yet taken as a text. */
    private static final class Tape {
        static final int SIZE = 600;
        static final int HELPING = 20;

        final int[] bytes = new int[SIZE];
        int length;

        void copy(Tape other) {
            System.arraycopy(other.bytes, 0, bytes, 0, SIZE);
            length = other.length;
        }

        boolean hasRoom() {
            return length + HELPING <= SIZE;
        }

        void put(int number) {
            for (int shift = 24; shift >= 0 && length < SIZE; shift -= 8) {
                bytes[length] = number >> shift & 255;
                length++;
            }
        }

        int at(int place) {
            return place >= 0 && place < length ? bytes[place] : NONE;
        }
    }

    private static final class Village {
        // one more than can be told, for the further tie of a what-if
        static final int TIE_ROOM = MOST_TIES + 1;

        int people;
        final int[] kind = new int[ROOM];
        final int[] doubt = new int[ROOM];
        int ties;
        final int[] from = new int[TIE_ROOM];
        final int[] to = new int[TIE_ROOM];
        final int[] days = new int[TIE_ROOM];
        final int[] strength = new int[TIE_ROOM];
        int slow;
        int wordTires;
        int denialTires;

        void clear() {
            people = 2;
            Arrays.fill(kind, FIRST);
            Arrays.fill(doubt, 1);
            ties = 0;
            slow = 0;
            wordTires = 0;
            denialTires = 0;
        }

        void copy(Village other) {
            people = other.people;
            System.arraycopy(other.kind, 0, kind, 0, ROOM);
            System.arraycopy(other.doubt, 0, doubt, 0, ROOM);
            ties = other.ties;
            System.arraycopy(other.from, 0, from, 0, TIE_ROOM);
            System.arraycopy(other.to, 0, to, 0, TIE_ROOM);
            System.arraycopy(other.days, 0, days, 0, TIE_ROOM);
            System.arraycopy(other.strength, 0, strength, 0, TIE_ROOM);
            slow = other.slow;
            wordTires = other.wordTires;
            denialTires = other.denialTires;
        }

        void addTie(int one, int other, int late, int strong) {
            if (ties >= TIE_ROOM) {
                return;
            }
            from[ties] = one;
            to[ties] = other;
            days[ties] = late;
            strength[ties] = strong;
            ties++;
        }

        boolean has(int person) {
            return person >= 0 && person < people;
        }

        int all() {
            return (1 << people) - 1;
        }

        /** On how many days one says it at most; 0: there is no such number. */
        int limit(int person, boolean deny) {
            if (kind[person] == ONCE) {
                return 1;
            }
            return deny ? denialTires : wordTires;
        }

        /** How many days later it comes by a tie. */
        int delay(int tie, boolean deny) {
            return deny ? days[tie] + slow : days[tie];
        }

        int strengthTo(int person) {
            int sum = 0;
            for (int tie = 0; tie < ties; tie++) {
                if (to[tie] == person) {
                    sum += strength[tie];
                }
            }
            return sum;
        }

        int loudest() {
            int best = NONE;
            int most = 0;
            for (int person = 0; person < people; person++) {
                int others = 0;
                for (int tie = 0; tie < ties; tie++) {
                    if (from[tie] == person) {
                        others |= 1 << to[tie];
                    }
                }
                if (Integer.bitCount(others) > most) {
                    most = Integer.bitCount(others);
                    best = person;
                }
            }
            return best;
        }
    }

    private static final class Telling {
        static final int MOST_ACTS = 30;

        int acts;
        final int[] sort = new int[MOST_ACTS];
        final int[] first = new int[MOST_ACTS];
        final int[] second = new int[MOST_ACTS];
        final int[] third = new int[MOST_ACTS];

        void copy(Telling other) {
            acts = other.acts;
            System.arraycopy(other.sort, 0, sort, 0, MOST_ACTS);
            System.arraycopy(other.first, 0, first, 0, MOST_ACTS);
            System.arraycopy(other.second, 0, second, 0, MOST_ACTS);
            System.arraycopy(other.third, 0, third, 0, MOST_ACTS);
        }

        void addAct(int what, int one, int two, int three) {
            if (acts >= MOST_ACTS) {
                return;
            }
            sort[acts] = what;
            first[acts] = one;
            second[acts] = two;
            third[acts] = three;
            acts++;
        }
    }

    /** All that is told: what an image holds. */
    private static final class Book {
        static final int MOST_VILLAGES = 2;
        static final int MOST_TELLINGS = 3;

        final Village[] villages = new Village[MOST_VILLAGES];
        final Telling[] tellings = new Telling[MOST_TELLINGS];
        final Tape tape = new Tape();
        int villageCount;
        int tellingCount;
        int flaw;
        int flawAt = NONE;

        Book() {
            for (int i = 0; i < MOST_VILLAGES; i++) {
                villages[i] = new Village();
            }
            for (int i = 0; i < MOST_TELLINGS; i++) {
                tellings[i] = new Telling();
            }
        }

        void copy(Book other) {
            for (int i = 0; i < MOST_VILLAGES; i++) {
                villages[i].copy(other.villages[i]);
            }
            for (int i = 0; i < MOST_TELLINGS; i++) {
                tellings[i].copy(other.tellings[i]);
            }
            tape.copy(other.tape);
            villageCount = other.villageCount;
            tellingCount = other.tellingCount;
            flaw = other.flaw;
            flawAt = other.flawAt;
        }

        boolean hasVillage(int village) {
            return village >= 0 && village < villageCount;
        }

        boolean hasTelling(int telling) {
            return telling >= 0 && telling < tellingCount;
        }

        Telling tellingOrNull(int telling) {
            return hasTelling(telling) ? tellings[telling] : null;
        }

        /** Whether a text of a sort may stand at a place (NONE: behind the others). */
        boolean fits(int sort, int at) {
            if (sort == VILLAGE) {
                return at == NONE ? villageCount < MOST_VILLAGES : hasVillage(at);
            }
            if (sort == TELLING) {
                return at == NONE ? tellingCount < MOST_TELLINGS : hasTelling(at);
            }
            return false;
        }

        int keep(Village village, int at) {
            int place = at == NONE ? villageCount++ : at;
            villages[place].copy(village);
            return place;
        }

        int keep(Telling telling, int at) {
            int place = at == NONE ? tellingCount++ : at;
            tellings[place].copy(telling);
            return place;
        }
    }

    /** Takes the tape as a text: what it tells, or its fault. */
    private static final class Reader {
        private static final int END = 0;
        private static final int LETTERS = 1;
        private static final int NUMBER = 2;
        private static final int STOP = 3;
        private static final int STRAY = 4;

        // the words that begin a line, those of a village first, the kinds in their order
        private static final int PEOPLE = 0;
        private static final int KIND = 1;
        private static final int DOUBT = 7;
        private static final int TIE = 8;
        private static final int SLOW = 9;
        private static final int TIRES = 10;
        private static final int ACT = 11;
        private static final int WALL_ACT = 13;
        private static final int WORDS = 14;

        final Village village = new Village();
        final Telling telling = new Telling();
        int flaw;
        int flawAt;
        private Tape tape;
        private int place;
        private int token;
        private int tokenAt;
        private int number;
        private int greatest;
        private final int[] numbers = new int[4];

        void read(int sort, Tape from) {
            tape = from;
            place = 0;
            flaw = 0;
            flawAt = NONE;
            greatest = 0;
            village.clear();
            telling.acts = 0;
            next();
            boolean goesOn = true;
            for (int line = 0; line <= Tape.SIZE && goesOn; line++) {
                goesOn = token != END && readLine(sort);
            }
            if (flaw == 0 && sort == VILLAGE && greatest >= village.people) {
                flaw = 4;
                flawAt = tape.length;
            }
        }

        /** Reads a line and the first token behind it; false: no text goes on so. */
        private boolean readLine(int sort) {
            int word = token == LETTERS ? wordOf(sort) : NONE;
            if (word == NONE) {
                return stray();
            }
            if (word == TIE && village.ties >= MOST_TIES || word >= ACT && telling.acts >= Telling.MOST_ACTS) {
                blame(3);
            }
            next();
            int many = 0;
            for (; many < Tape.SIZE && token == NUMBER && (many < needed(word) || isKind(word)); many++) {
                accept(word, many);
                next();
            }
            if (many < needed(word) || token != STOP) {
                return stray();
            }
            if (flaw == 0) {
                tell(word);
            }
            next();
            return true;
        }

        private boolean stray() {
            flaw = 1;
            flawAt = tokenAt;
            return false;
        }

        /** The text is read in the order of its places, so the first one blamed is the first by place. */
        private void blame(int what) {
            if (flaw == 0) {
                flaw = what;
                flawAt = tokenAt;
            }
        }

        private void accept(int word, int at) {
            if (!mayBe(word, at)) {
                blame(2);
                return;
            }
            if (at < numbers.length) {
                numbers[at] = number;
            }
            if (isPerson(word, at)) {
                greatest = Math.max(greatest, number);
            }
            if (isKind(word) && flaw == 0) {
                village.kind[number] = word - KIND;
            }
        }

        private void tell(int word) {
            switch (word) {
                case PEOPLE: village.people = numbers[0]; break;
                case DOUBT: village.doubt[numbers[0]] = numbers[1]; break;
                case TIE: village.addTie(numbers[0], numbers[1], numbers[2], numbers[3]); break;
                case SLOW: village.slow = numbers[0]; break;
                case TIRES:
                    village.wordTires = numbers[0];
                    village.denialTires = numbers[1];
                    break;
                default:
                    if (word >= ACT) {
                        telling.addAct(word - ACT, numbers[0], numbers[1], word == WALL_ACT ? numbers[2] : NONE);
                    }
            }
        }

        /** Whether the number that was read can be the one of this place in its line. */
        private boolean mayBe(int word, int at) {
            if (isPerson(word, at)) {
                return number < ROOM && !(word == TIE && at == 1 && number == numbers[0]);
            }
            switch (word) {
                case PEOPLE: return number >= 1 && number <= ROOM;
                case DOUBT: return number >= 1;
                case TIE: return number >= 1 && number <= (at == 2 ? 3 : 9);
                case SLOW: return number <= 3;
                case TIRES: return number <= 30;
                case WALL_ACT: return at == 0 ? number < MOST_TIES : at == 1 || number >= numbers[1];
                default: return at == 0 || number < ROOM;
            }
        }

        private static boolean isKind(int word) {
            return word >= KIND && word < KIND + KINDS;
        }

        /** Whether a number of a village's line tells of somebody. */
        private static boolean isPerson(int word, int at) {
            return isKind(word) || word == DOUBT && at == 0 || word == TIE && at <= 1;
        }

        private static int needed(int word) {
            switch (word) {
                case TIE: return 4;
                case WALL_ACT: return 3;
                case DOUBT: return 2;
                case TIRES: return 2;
                default: return word >= ACT ? 2 : 1;
            }
        }

        private void next() {
            while (place < tape.length && (tape.at(place) == ' ' || tape.at(place) == '\n')) {
                place++;
            }
            tokenAt = place;
            int first = tape.at(place);
            if (first == NONE) {
                token = END;
            } else if (isLetter(first)) {
                token = LETTERS;
                while (place < tape.length && isLetter(tape.at(place))) {
                    place++;
                }
            } else if (isDigit(first)) {
                readNumber();
            } else {
                token = first == ';' ? STOP : STRAY;
                place++;
            }
        }

        private void readNumber() {
            number = 0;
            while (place < tape.length && isDigit(tape.at(place))) {
                // a row too long is refused below: its value is free, but must not overflow
                number = (number * 10 + tape.at(place) - '0') % 1000;
                place++;
            }
            token = place - tokenAt <= 2 ? NUMBER : STRAY;
        }

        private static boolean isLetter(int sign) {
            return sign >= 'a' && sign <= 'z';
        }

        private static boolean isDigit(int sign) {
            return sign >= '0' && sign <= '9';
        }

        private int wordOf(int sort) {
            int first = sort == VILLAGE ? PEOPLE : ACT;
            int behind = sort == VILLAGE ? ACT : WORDS;
            for (int word = first; word < behind; word++) {
                if (spells(spelling(word))) {
                    return word;
                }
            }
            return NONE;
        }

        private boolean spells(String word) {
            if (place - tokenAt != word.length()) {
                return false;
            }
            for (int i = 0; i < word.length(); i++) {
                if (tape.at(tokenAt + i) != word.charAt(i)) {
                    return false;
                }
            }
            return true;
        }

        private static String spelling(int word) {
            switch (word) {
                case PEOPLE: return "people";
                case KIND + FIRST: return "first";
                case KIND + LAST: return "last";
                case KIND + MOST: return "most";
                case KIND + TILL: return "till";
                case KIND + BOTH: return "both";
                case KIND + ONCE: return "once";
                case DOUBT: return "doubt";
                case TIE: return "tie";
                case SLOW: return "slow";
                case TIRES: return "tires";
                case ACT + WORD: return "word";
                case ACT + DENY: return "deny";
                default: return "wall";
            }
        }
    }

    /** What a run is given: a telling by days, and what a what-if adds to it or takes from it. */
    private static final class Given {
        private static final int AMOUNT = 9;

        private final int[] words = new int[ACT_DAYS * ROOM];
        private final int[] denials = new int[ACT_DAYS * ROOM];
        private final long[] walls = new long[ACT_DAYS];
        private int tiesThere;
        private int lastAct;
        private int lastWall;
        /** Only the walls of the telling count, and those are told the word on day 0. */
        private boolean alone;
        private int begin;
        private int denied;
        private int denyFrom;
        private int denyTo;
        private int silent;
        private long dead;
        private long barred;
        private int barFrom;

        /** Lays a telling (null: none) out by days, for a village of so many ties, without any what-if. */
        void set(Telling telling, int ties) {
            Arrays.fill(words, 0);
            Arrays.fill(denials, 0);
            Arrays.fill(walls, 0L);
            tiesThere = ties;
            lastAct = 0;
            lastWall = 0;
            alone = false;
            begin = 0;
            denied = 0;
            silent = 0;
            dead = 0L;
            barred = 0L;
            for (int act = 0; telling != null && act < telling.acts; act++) {
                if (telling.sort[act] == WALL) {
                    raise(telling.first[act], telling.second[act], telling.third[act]);
                } else {
                    tell(telling.sort[act], telling.first[act], telling.second[act]);
                }
            }
        }

        private void raise(int tie, int since, int until) {
            // a wall of a tie that is not there must not strike the further one of a what-if
            long bit = tie < tiesThere ? 1L << tie : 0L;
            for (int day = since; day <= until && day < ACT_DAYS; day++) {
                walls[day] |= bit;
            }
            lastWall = Math.max(lastWall, until);
            lastAct = Math.max(lastAct, until);
        }

        private void tell(int sort, int day, int person) {
            int[] rows = sort == WORD ? words : denials;
            rows[day * ROOM + person] += AMOUNT;
            lastAct = Math.max(lastAct, day);
        }

        void beginBy(int some) {
            alone = true;
            begin = some;
        }

        void deny(int some, int since, int until) {
            denied = some;
            denyFrom = since;
            denyTo = until;
        }

        void bar(long some, int since) {
            barred = some;
            barFrom = since;
        }

        int lastDay() {
            int last = alone ? lastWall : lastAct;
            if (denied != 0) {
                last = Math.max(last, denyTo);
            }
            return barred == 0L ? last : Math.max(last, barFrom);
        }

        /** How much of the word, or of the denial, comes to one from outside on a day. */
        int amount(int day, int person, boolean deny) {
            int bit = 1 << person;
            int sum = 0;
            if (!alone && day < ACT_DAYS) {
                sum = deny ? denials[day * ROOM + person] : words[day * ROOM + person];
            }
            if (alone && !deny && day == 0 && (begin & bit) != 0) {
                sum += AMOUNT;
            }
            if (deny && day >= denyFrom && day <= denyTo && (denied & bit) != 0) {
                sum += AMOUNT;
            }
            return sum;
        }

        /** Some say nothing at all. */
        void silence(int some) {
            silent = some;
        }

        boolean isSilent(int person) {
            return (silent >> person & 1) != 0;
        }

        /** Some ties carry nothing at all. */
        void kill(long some) {
            dead = some;
        }

        /** The ties that carry on a day. */
        long openOn(int day) {
            long shut = day < ACT_DAYS ? dead | walls[day] : dead;
            return day >= barFrom ? ~(shut | barred) : ~shut;
        }
    }

    /** What a run leaves of the word, or of the denial, by days: rows of bits, and of ROOM numbers each. */
    private static final class Side {
        final int[] has = new int[DAYS];
        final int[] says = new int[DAYS];
        /** The ties by which it went. */
        final long[] ties = new long[DAYS];
        final int[] comes = new int[DAYS * ROOM];
        /** On how many days it was said, of those who tire. */
        final int[] counts = new int[DAYS * ROOM];

        boolean went(int day, int tie) {
            return day >= 0 && (ties[day] >> tie & 1L) != 0L;
        }

        int has(int day, int person) {
            return has[day] >> person & 1;
        }

        int says(int day, int person) {
            return says[day] >> person & 1;
        }

        /** A day begins with what the one ahead of it left. */
        void open(int day) {
            if (day == 0) {
                has[0] = 0;
                Arrays.fill(counts, 0, ROOM, 0);
                return;
            }
            has[day] = has[day - 1];
            System.arraycopy(counts, (day - 1) * ROOM, counts, day * ROOM, ROOM);
        }
    }

    /** What a run leaves, by days. */
    private static final class Days {
        private static final long MIX = 6364136223846793005L;

        final Side word = new Side();
        final Side denial = new Side();
        final int[] sums = new int[DAYS * ROOM];
        /** Days of the same state have the same print; few others have. */
        private final long[] print = new long[DAYS];
        int ringDay;
        int ringLength;
        int reached;

        Side side(boolean deny) {
            return deny ? denial : word;
        }

        int holdersOn(int day) {
            return word.has[day] & ~denial.has[day];
        }

        int has(int day, int person) {
            return word.has(day, person) + 2 * denial.has(day, person);
        }

        int says(int day, int person) {
            return word.says(day, person) + 2 * denial.says(day, person);
        }

        boolean isClean() {
            if (ringDay == NONE) {
                return false;
            }
            for (int day = ringDay; day < ringDay + ringLength && day < DAYS; day++) {
                if (holdersOn(day) != 0) {
                    return false;
                }
            }
            return true;
        }

        /** How many hold on the day of the ring, or on the last day without one. */
        int endHolders() {
            return Integer.bitCount(holdersOn(ringDay == NONE ? LAST_DAY : ringDay));
        }

        int peak() {
            int best = 0;
            for (int day = 1; day <= LAST_DAY; day++) {
                if (Integer.bitCount(holdersOn(day)) > Integer.bitCount(holdersOn(best))) {
                    best = day;
                }
            }
            return best;
        }

        int half(int people) {
            for (int day = 0; day <= LAST_DAY; day++) {
                if (2 * Integer.bitCount(holdersOn(day)) >= people) {
                    return day;
                }
            }
            return NONE;
        }

        int heldBy(int person, int until) {
            int held = 0;
            for (int day = 0; day <= until; day++) {
                held += holdersOn(day) >> person & 1;
            }
            return held;
        }

        /** Also right when the run stopped at its ring: later days only bring its days again. */
        int everHolders() {
            int ever = 0;
            for (int day = 0; day <= reached; day++) {
                ever |= holdersOn(day);
            }
            return ever;
        }

        int quietFrom() {
            int from = DAYS;
            while (from > 0 && word.says[from - 1] == 0) {
                from--;
            }
            return from;
        }

        int lastHeldDay() {
            int day = LAST_DAY;
            while (day >= 0 && holdersOn(day) == 0) {
                day--;
            }
            return day;
        }

        /** All (the bits of nobody too) who have the same from a day on. */
        int firmFrom(int since) {
            int other = 0;
            for (int day = since + 1; day <= LAST_DAY; day++) {
                other |= word.has[day] ^ word.has[since];
                other |= denial.has[day] ^ denial.has[since];
            }
            return ~other;
        }

        int changesOf(int person) {
            int changes = has(0, person) == 0 ? 0 : 1;
            for (int day = 1; day <= LAST_DAY; day++) {
                if (has(day, person) != has(day - 1, person)) {
                    changes++;
                }
            }
            return changes;
        }

        void open(int day) {
            word.open(day);
            denial.open(day);
            if (day == 0) {
                Arrays.fill(sums, 0, ROOM, 0);
            } else {
                System.arraycopy(sums, (day - 1) * ROOM, sums, day * ROOM, ROOM);
            }
        }

        void close(int day) {
            long mixed = word.has[day] + MIX * denial.has[day];
            for (int place = day * ROOM; place < (day + 1) * ROOM; place++) {
                mixed = mixed * MIX + sums[place];
                mixed = mixed * MIX + word.counts[place];
                mixed = mixed * MIX + denial.counts[place];
            }
            print[day] = mixed;
            reached = day;
        }

        /** Whether all but what is still to come is the same. */
        boolean isAlike(int one, int other) {
            boolean same = print[one] == print[other]
                && word.has[one] == word.has[other] && denial.has[one] == denial.has[other];
            for (int person = 0; person < ROOM && same; person++) {
                int a = one * ROOM + person;
                int b = other * ROOM + person;
                same = sums[a] == sums[b] && word.counts[a] == word.counts[b]
                    && denial.counts[a] == denial.counts[b];
            }
            return same;
        }
    }

    /** Lets a village live day by day by what it is given. */
    private static final class Run {
        private static final int SUM_END = 99;
        // a denial comes six days later at most
        private static final int AHEAD = 6;

        // a copy of its own, so that what-ifs may change it
        final Village village = new Village();
        final Given given = new Given();
        final Days days = new Days();
        private final int[] balance = new int[ROOM];

        /**
         * Lives the days since .. until, or (tillRing) until a state has come again.
         * Since a later day than 0: the days ahead of it stand as they were lived before.
         */
        void live(int since, int until, boolean tillRing) {
            days.ringDay = NONE;
            days.ringLength = NONE;
            int last = given.lastDay();
            for (int day = since; day <= until && day <= LAST_DAY; day++) {
                days.open(day);
                bring(day, false, day <= last);
                bring(day, true, day <= last);
                for (int person = 0; person < village.people; person++) {
                    hear(day, person);
                }
                say(day, false);
                say(day, true);
                days.close(day);
                if (days.ringDay == NONE) {
                    findRing(day, last);
                }
                if (tillRing && days.ringDay != NONE) {
                    return;
                }
            }
        }

        /** Brings to each one what comes that day by ties, and from outside, whatever his doubt. */
        private void bring(int day, boolean deny, boolean outside) {
            Side side = days.side(deny);
            int row = day * ROOM;
            for (int person = 0; person < village.people; person++) {
                side.comes[row + person] = outside ? given.amount(day, person, deny) : 0;
            }
            for (int tie = 0; tie < village.ties; tie++) {
                if (side.went(day - village.delay(tie, deny), tie)) {
                    side.comes[row + village.to[tie]] += village.strength[tie];
                }
            }
        }

        int hears(int day, int person, boolean deny) {
            int amount = days.side(deny).comes[day * ROOM + person];
            return amount < village.doubt[person] ? 0 : amount;
        }

        private void hear(int day, int person) {
            int bit = 1 << person;
            int w = hears(day, person, false);
            int d = hears(day, person, true);
            if (w == 0 && d == 0) {
                return;
            }
            if (village.kind[person] == BOTH) {
                days.word.has[day] |= w > 0 ? bit : 0;
                days.denial.has[day] |= d > 0 ? bit : 0;
                return;
            }
            int lean = lean(day, person, w, d);
            if (lean != 0) {
                days.word.has[day] = days.word.has[day] & ~bit | (lean > 0 ? bit : 0);
                days.denial.has[day] = days.denial.has[day] & ~bit | (lean < 0 ? bit : 0);
            }
        }

        /** Above 0: one has the word from now on; below 0: the denial; at 0: what he had. */
        private int lean(int day, int person, int w, int d) {
            boolean hasNone = ((days.word.has[day] | days.denial.has[day]) >> person & 1) == 0;
            switch (village.kind[person]) {
                case LAST:
                    return w - d;
                case MOST:
                    int place = day * ROOM + person;
                    days.sums[place] = Math.max(-SUM_END, Math.min(SUM_END, days.sums[place] + w - d));
                    return days.sums[place];
                case TILL:
                    return d > 0 ? -d : hasNone ? w : 0;
                default:
                    if (!hasNone) {
                        return 0;
                    }
                    return w >= d ? 1 : -1;
            }
        }

        private void say(int day, boolean deny) {
            Side side = days.side(deny);
            side.says[day] = 0;
            side.ties[day] = 0L;
            if (side.has[day] == 0) {
                return;
            }
            int some = 0;
            for (int person = 0; person < village.people; person++) {
                int place = day * ROOM + person;
                int limit = village.limit(person, deny);
                boolean tired = limit > 0 && side.counts[place] >= limit;
                boolean says = side.has(day, person) != 0 && !tired && !given.isSilent(person);
                some |= says ? 1 << person : 0;
                side.counts[place] += says && limit > 0 ? 1 : 0;
            }
            long ties = 0L;
            for (int tie = 0; tie < village.ties; tie++) {
                ties |= (long) (some >> village.from[tie] & 1) << tie;
            }
            side.says[day] = some;
            side.ties[day] = ties & given.openOn(day);
        }

        /** What follows a state follows it again: the first state that comes again is the ring's first one. */
        private void findRing(int day, int last) {
            for (int early = last; early < day; early++) {
                if (days.isAlike(early, day) && awaitsSame(early, day, false) && awaitsSame(early, day, true)) {
                    days.ringDay = early;
                    days.ringLength = day - early;
                    return;
                }
            }
        }

        /** Whether at the end of both days as much is still to come to each one, day by day. */
        private boolean awaitsSame(int one, int other, boolean deny) {
            Side side = days.side(deny);
            for (int ahead = 1; ahead <= AHEAD; ahead++) {
                Arrays.fill(balance, 0);
                for (int tie = 0; tie < village.ties; tie++) {
                    int ago = village.delay(tie, deny) - ahead;
                    boolean before = ago >= 0 && side.went(one - ago, tie);
                    boolean after = ago >= 0 && side.went(other - ago, tie);
                    if (before != after) {
                        balance[village.to[tie]] += before ? village.strength[tie] : -village.strength[tie];
                    }
                }
                for (int person = 0; person < village.people; person++) {
                    if (balance[person] != 0) {
                        return false;
                    }
                }
            }
            return true;
        }

        int firstHeard(int person, boolean deny) {
            Side side = days.side(deny);
            for (int day = 0; day <= LAST_DAY; day++) {
                if (side.comes[day * ROOM + person] > 0) {
                    return day;
                }
            }
            return NONE;
        }

        int heardFrom(int person, int day, boolean deny) {
            Side side = days.side(deny);
            int least = NONE;
            for (int tie = 0; tie < village.ties; tie++) {
                boolean brings = village.to[tie] == person && side.went(day - village.delay(tie, deny), tie);
                if (brings && (least == NONE || village.from[tie] < least)) {
                    least = village.from[tie];
                }
            }
            return least;
        }

        /** How many tellers of the word stand behind one (k NONE), or the k-th of them. */
        int tellersBehind(int person, int k) {
            int seen = 1 << person;
            int many = 0;
            int one = person;
            boolean goesOn = true;
            for (int i = 0; i <= village.people && goesOn; i++) {
                int day = firstHeard(one, false);
                one = day == NONE ? NONE : heardFrom(one, day, false);
                goesOn = one != NONE && (seen >> one & 1) == 0;
                if (one != NONE && many == k) {
                    return one;
                }
                if (one != NONE) {
                    seen |= 1 << one;
                    many++;
                }
            }
            return k == NONE ? many : NOT_THERE;
        }
    }

    /** Tries what-ifs on a run; each search begins with the run as it is given. */
    private static final class Search {
        private static final int OFTEN = 9;
        private static final int LATEST = 40;
        private static final int DOUBTS = 99;
        // there are fewer sets of three of the people, and fewer of two ties
        private static final int MOST_SETS = 1000;
        private static final long NO_SET = 1L << 62;
        // no village has so many people
        private static final int MANY = 1000;

        private final Run life;
        private final Village village;
        private final Given given;
        private final Days days;
        private final int[] firsts = new int[DAYS];

        Search(Run run) {
            life = run;
            village = run.village;
            given = run.given;
            days = run.days;
        }

        private static long firstSet(int size) {
            return (1L << size) - 1;
        }

        /** The next greater number of as many bits. */
        private static long nextSet(long set) {
            long low = set & -set;
            if (low == 0L) {
                return NO_SET;
            }
            long up = set + low;
            return up | ((up ^ set) / low) >> 2;
        }

        int leastCure(int day, int most) {
            life.live(0, LAST_DAY, true);
            if (days.isClean()) {
                return 0;
            }
            life.live(0, day - 1, false);
            return leastDenied(day, most);
        }

        /** The days ahead stand lived. */
        private int leastDenied(int day, int most) {
            for (int size = 1; size <= most; size++) {
                long set = firstSet(size);
                for (int i = 0; i < MOST_SETS && set <= village.all(); i++) {
                    given.deny((int) set, day, day);
                    life.live(day, LAST_DAY, true);
                    if (days.isClean()) {
                        return (int) set;
                    }
                    set = nextSet(set);
                }
            }
            return NONE;
        }

        int lastCureDay(int most) {
            life.live(0, LAST_DAY, true);
            if (days.isClean()) {
                return LATEST;
            }
            life.live(0, LATEST - 1, false);
            for (int day = LATEST; day >= 0; day--) {
                if (leastDenied(day, most) != NONE) {
                    return day;
                }
            }
            return NONE;
        }

        int howManyCures(int day, int size) {
            // the set of nobody is no denial of that day
            int since = size == 0 ? 0 : day;
            life.live(0, since - 1, false);
            int many = 0;
            long set = firstSet(size);
            for (int i = 0; i < MOST_SETS && set <= village.all(); i++) {
                given.deny((int) set, day, day);
                life.live(since, LAST_DAY, true);
                many += days.isClean() ? 1 : 0;
                set = nextSet(set);
            }
            return many;
        }

        int fewestDenials(int day, int person) {
            life.live(0, day - 1, false);
            for (int many = 1; many <= OFTEN; many++) {
                given.deny(1 << person, day, day + many - 1);
                life.live(day, LAST_DAY, true);
                if (days.isClean()) {
                    return many;
                }
            }
            return NONE;
        }

        long leastBarred(int day, int most) {
            life.live(0, LAST_DAY, true);
            if (days.isClean()) {
                return 0L;
            }
            life.live(0, day - 1, false);
            for (int size = 1; size <= most; size++) {
                long set = firstSet(size);
                for (int i = 0; i < MOST_SETS && set < 1L << village.ties; i++) {
                    given.bar(set, day);
                    life.live(day, LAST_DAY, true);
                    if (days.isClean()) {
                        return set;
                    }
                    set = nextSet(set);
                }
            }
            return NONE;
        }

        private int holdersBegunBy(int some, int day) {
            given.beginBy(some);
            life.live(0, day, false);
            return days.holdersOn(day);
        }

        /** How many sets of one or two (k NONE), or the k-th by numbers. */
        int beginnings(int day, int holders, int k) {
            int many = 0;
            for (int high = 0; high < village.people; high++) {
                for (int low = NONE; low < high; low++) {
                    int set = low == NONE ? 1 << high : 1 << high | 1 << low;
                    if (holdersBegunBy(set, day) == holders) {
                        if (many == k) {
                            return set;
                        }
                        many++;
                    }
                }
            }
            return k == NONE ? many : NOT_THERE;
        }

        int nearestBeginning(int day, int holders, boolean far) {
            int best = NONE;
            int least = MANY;
            for (int person = 0; person < village.people; person++) {
                int differ = Integer.bitCount(holdersBegunBy(1 << person, day) ^ holders);
                if (differ < least) {
                    least = differ;
                    best = person;
                }
            }
            return far ? least : best;
        }

        private int endHolders() {
            life.live(0, LAST_DAY, true);
            return days.endHolders();
        }

        int weightOf(int person) {
            int holders = endHolders();
            given.silence(1 << person);
            return holders - endHolders();
        }

        int bestSilent() {
            int best = NONE;
            int least = MANY;
            for (int person = 0; person < village.people; person++) {
                given.silence(1 << person);
                int holders = endHolders();
                if (holders < least) {
                    least = holders;
                    best = person;
                }
            }
            return best;
        }

        int bestWithoutTie() {
            int best = NONE;
            int least = MANY;
            for (int tie = 0; tie < village.ties; tie++) {
                given.kill(1L << tie);
                int holders = endHolders();
                if (holders < least) {
                    least = holders;
                    best = tie;
                }
            }
            return best;
        }

        /** The ties that carry nothing in the world of a seed. */
        private long drawnDead(int seed) {
            int x = seed;
            long dead = 0L;
            for (int tie = 0; tie < village.ties; tie++) {
                x = x * 1103515245 + 12345;
                if ((x >>> 16) % 10 >= village.strength[tie]) {
                    dead |= 1L << tie;
                }
            }
            return dead;
        }

        int drawnHolders(int seed, int day) {
            given.kill(drawnDead(seed));
            life.live(0, day, false);
            return days.holdersOn(day);
        }

        boolean isDrawnClean(int seed) {
            given.kill(drawnDead(seed));
            life.live(0, LAST_DAY, true);
            return days.isClean();
        }

        int drawnWorlds(int seed, int worlds, int day, boolean holders) {
            int sum = 0;
            for (int i = 0; i < worlds; i++) {
                if (holders) {
                    sum += Integer.bitCount(drawnHolders(seed + i, day));
                } else {
                    sum += isDrawnClean(seed + i) ? 1 : 0;
                }
            }
            return sum;
        }

        int firstJoin(boolean wantsTo) {
            int ties = village.ties;
            for (int from = 0; from < village.people; from++) {
                for (int to = 0; to < village.people; to++) {
                    village.ties = ties;
                    village.addTie(from, to, 1, 9);
                    life.live(0, LAST_DAY, true);
                    if (from != to && days.isClean()) {
                        return wantsTo ? to : from;
                    }
                }
            }
            return NONE;
        }

        int firstUnlike(Telling other) {
            life.live(0, LAST_DAY, false);
            for (int day = 0; day <= LAST_DAY; day++) {
                firsts[day] = days.holdersOn(day);
            }
            given.set(other, village.ties);
            life.live(0, LAST_DAY, false);
            for (int day = 0; day <= LAST_DAY; day++) {
                if (firsts[day] != days.holdersOn(day)) {
                    return day;
                }
            }
            return NONE;
        }

        private int everHolders() {
            life.live(0, LAST_DAY, true);
            return days.everHolders();
        }

        int leastShield(int person, int most) {
            for (int size = 0; size <= most; size++) {
                long set = firstSet(size);
                for (int i = 0; i < MOST_SETS && set <= village.all(); i++) {
                    given.silence((int) set);
                    if ((set >> person & 1) == 0 && (everHolders() >> person & 1) == 0) {
                        return (int) set;
                    }
                    set = nextSet(set);
                }
            }
            return NONE;
        }

        int widestBeginning(boolean wantsNumber) {
            int best = NONE;
            int most = NONE;
            for (int person = 0; person < village.people; person++) {
                given.beginBy(1 << person);
                int ever = Integer.bitCount(everHolders());
                if (ever > most) {
                    most = ever;
                    best = person;
                }
            }
            return wantsNumber ? most : best;
        }

        int longestBeginning(boolean wantsLength) {
            int best = NONE;
            int most = NONE;
            for (int person = 0; person < village.people; person++) {
                given.beginBy(1 << person);
                life.live(0, LAST_DAY, true);
                int length = Math.max(0, days.ringLength);
                if (length > most) {
                    most = length;
                    best = person;
                }
            }
            return wantsLength ? most : best;
        }

        int leastDeafDoubt(int person) {
            for (int doubt = 1; doubt <= DOUBTS; doubt++) {
                village.doubt[person] = doubt;
                if ((everHolders() >> person & 1) == 0) {
                    return doubt;
                }
            }
            return NONE;
        }

        int bestTurned(int kind, boolean wantsEnd) {
            int best = NONE;
            int least = MANY;
            for (int person = 0; person < village.people; person++) {
                int before = village.kind[person];
                village.kind[person] = kind;
                int holders = endHolders();
                village.kind[person] = before;
                if (holders < least) {
                    least = holders;
                    best = person;
                }
            }
            return wantsEnd ? least : best;
        }
    }

    /** The ways of a village by its ties, whatever anybody says. */
    private static final class Ways {
        private static final int NEVER = 1000000;

        private final int[] comeBy = new int[ROOM];
        private final int[] far = new int[ROOM];
        private long taken;

        int forward(Village village, int person) {
            taken = 0L;
            return reached(village, person);
        }

        /** Ties that are all taken can be gone back alone. */
        int backward(Village village, int person) {
            taken = -1L;
            return reached(village, person);
        }

        /** All whom one comes to by ties not taken, forward, and by taken ones, back. */
        private int reached(Village village, int person) {
            int seen = 1 << person;
            int before = 0;
            for (int round = 0; round < ROOM && seen != before; round++) {
                before = seen;
                for (int tie = 0; tie < village.ties; tie++) {
                    boolean back = (taken >> tie & 1L) != 0L;
                    int from = back ? village.to[tie] : village.from[tie];
                    int to = back ? village.from[tie] : village.to[tie];
                    if ((seen >> from & 1) != 0 && (seen >> to & 1) == 0) {
                        seen |= 1 << to;
                        comeBy[to] = tie;
                    }
                }
            }
            return seen;
        }

        int mostApart(Village village, int from, int to) {
            int many = 0;
            taken = 0L;
            while (many < village.ties && (reached(village, from) >> to & 1) != 0) {
                takeWay(village, from, to);
                many++;
            }
            return many;
        }

        /** Takes the ties of the way that was found, and gives back those it goes back. */
        private void takeWay(Village village, int from, int to) {
            int person = to;
            for (int step = 0; step < ROOM && person != from; step++) {
                int tie = comeBy[person];
                person = (taken >> tie & 1L) != 0L ? village.to[tie] : village.from[tie];
                taken ^= 1L << tie;
            }
        }

        long nearestCut(Village village, int from, int to) {
            mostApart(village, from, to);
            int near = reached(village, from);
            long cut = 0L;
            for (int tie = 0; tie < village.ties; tie++) {
                if ((near >> village.from[tie] & 1) != 0 && (near >> village.to[tie] & 1) == 0) {
                    cut |= 1L << tie;
                }
            }
            return cut;
        }

        int fewestDays(Village village, int from, int to, boolean deny) {
            int slow = deny ? village.slow : 0;
            Arrays.fill(far, NEVER);
            far[from] = 0;
            for (int round = 0; round < ROOM; round++) {
                for (int tie = 0; tie < village.ties; tie++) {
                    int days = far[village.from[tie]] + village.days[tie] + slow;
                    far[village.to[tie]] = Math.min(far[village.to[tie]], days);
                }
            }
            return far[to] < NEVER ? far[to] : NONE;
        }
    }
}
