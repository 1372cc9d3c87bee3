/**
 * A river whose banks may speak on odd and on even dates: its people, their
 * matters, and what can be settled between them. DOC.md numbers the promises
 * that each public method keeps.
 */
public final class OddBank {
    public static final int NONE = -1, UNKNOWN = -101, OUTSIDE = -102, STATE = -103, FULL = -104;

    private static final int LAST_DAY = 1460;
    private static final int MOST_PLANS = 20;

    private final Page page;
    private final World world;
    private final World kept;
    private final Plan plan;
    private final Course course;
    private int readings;
    private int plans;

    public OddBank() {
        page = new Page();
        world = new World();
        kept = new World();
        plan = new Plan();
        course = new Course();
    }

    // ---- the river

    public int letter(int code) {
        if (code < 1 || code > 126) {
            return OUTSIDE;
        }
        return page.append(code) ? page.length : FULL;
    }

    public int blank() {
        int had = page.length;
        page.length = 0;
        return had;
    }

    public int fault() {
        return page.firstFault();
    }

    public int river() {
        if (!page.isWhole()) {
            return STATE;
        }
        page.readInto(world);
        page.length = 0;
        kept.people = 0;
        readings++;
        return world.people;
    }

    public int person(int person, int what) {
        if (!world.knowsPerson(person)) {
            return UNKNOWN;
        }
        switch (what) {
            case 0: return world.kind[person];
            case 1: return world.born[person];
            case 2: return world.bankOf(person);
            case 3: return world.memory[person];
            case 4: return world.speaks(person, world.today) ? 1 : 0;
            case 5: return world.speakingDays(person);
            case 6: return world.possibleSorts(person);
            case 7: return world.dayToListen(person);
            default: return OUTSIDE;
        }
    }

    public int as(int person, int kind) {
        if (!world.knowsPerson(person)) {
            return UNKNOWN;
        }
        if (kind < 0 || kind >= Sort.KINDS) {
            return OUTSIDE;
        }
        return Sort.isKind(world.kind[person], kind) ? person : NONE;
    }

    public int matter(int matter, int what) {
        if (!world.knowsMatter(matter)) {
            return UNKNOWN;
        }
        switch (what) {
            case 0: return world.asks[matter];
            case 1: return world.answers[matter];
            case 2: return world.worth[matter];
            case 3: return world.standing(matter);
            case 4: return world.askedSince(matter);
            case 5: return world.worthToday(matter);
            case 6: return Outlook.soonest(world, matter);
            default: return OUTSIDE;
        }
    }

    public int date(int days, int what) {
        if (days < 0 || days > 366 || what < 0 || what > 3) {
            return OUTSIDE;
        }
        if (!world.hasRiver()) {
            return STATE;
        }
        int day = world.today + days;
        switch (what) {
            case 0: return Calendar.dateOf(day);
            case 1: return Calendar.monthOf(day);
            case 2: return Calendar.yearOf(day);
            default: return world.speakersOn(day);
        }
    }

    // ---- what is done

    public int say(int matter) {
        if (!world.knowsMatter(matter)) {
            return UNKNOWN;
        }
        int asked = world.asked[matter];
        if (!world.canBeSaid(matter, asked, world.today, world.speakersOn(world.today))) {
            return STATE;
        }
        if (asked == World.OPEN) {
            world.asked[matter] = world.today;
            return NONE;
        }
        int worth = world.settledFor(matter, asked, world.today);
        world.asked[matter] = World.SETTLED;
        world.total += worth;
        return worth;
    }

    public int day() {
        if (!world.hasRiver()) {
            return STATE;
        }
        if (world.today >= LAST_DAY) {
            return FULL;
        }
        world.today++;
        return world.today;
    }

    public int cross(int person) {
        if (!world.knowsPerson(person)) {
            return UNKNOWN;
        }
        world.right ^= 1 << person;
        return world.reopenAskedBy(person);
    }

    public int open(int matter, int worth) {
        if (!world.knowsMatter(matter)) {
            return UNKNOWN;
        }
        if (worth < 1 || worth > 9) {
            return OUTSIDE;
        }
        int stood = world.standing(matter);
        world.asked[matter] = World.OPEN;
        world.worth[matter] = worth;
        return stood;
    }

    public int change(int person, int kind, int memory) {
        if (!world.knowsPerson(person)) {
            return UNKNOWN;
        }
        if (kind < 0 || kind >= Sort.KINDS || memory < 0 || memory > 9) {
            return OUTSIDE;
        }
        int was = world.kind[person];
        world.kind[person] = kind;
        world.memory[person] = memory;
        return was;
    }

    // ---- what would be

    public int best(int days, int what) {
        boolean known = what == 0 || what == 1 || what >= 10 && what < 10 + Plan.LONGEST;
        if (days < 1 || days > Plan.LONGEST || !known) {
            return OUTSIDE;
        }
        if (!world.hasRiver() || plans >= MOST_PLANS) {
            return STATE;
        }
        plans++;
        plan.make(world, days);
        switch (what) {
            case 0: return plan.worth;
            case 1: return plan.settled;
            default: return plan.matterOn(what - 10);
        }
    }

    public int live(int what) {
        if (what < 0 || what > 1) {
            return OUTSIDE;
        }
        if (!world.hasRiver()) {
            return STATE;
        }
        int right = Outlook.bestHomes(world);
        return what == 0 ? Outlook.settledByTomorrow(world, right) : right;
    }

    public int fog(int matter, int days, int tenths, int what) {
        if (!world.knowsMatter(matter)) {
            return UNKNOWN;
        }
        if (days < 1 || days > 8 || tenths < 0 || tenths > 10 || what < 0 || what > 1) {
            return OUTSIDE;
        }
        if (world.asked[matter] == World.SETTLED) {
            return STATE;
        }
        int above = Outlook.partsSettled(world, matter, days, tenths);
        return Outlook.lowestTerms(above, days, what == 0);
    }

    // ---- what is seen

    public int see(int person, int days, boolean speaks) {
        if (!world.knowsPerson(person)) {
            return UNKNOWN;
        }
        if (days < 0 || days > 31) {
            return OUTSIDE;
        }
        return world.seen.add(person, days, speaks) ? world.seen.size : FULL;
    }

    public int forget() {
        int was = world.seen.size;
        world.seen.size = 0;
        return was;
    }

    public int years(int days, int seed, int what) {
        if (days < 1 || days > 60 || seed < 0 || what < 0 || what > 2) {
            return OUTSIDE;
        }
        if (!world.hasRiver()) {
            return STATE;
        }
        course.run(world, days, seed);
        switch (what) {
            case 0: return course.worth;
            case 1: return course.settled;
            default: return course.seed;
        }
    }

    // ---- what is told of all

    public int image() {
        if (!world.hasRiver()) {
            return STATE;
        }
        kept.copyFrom(world);
        return world.today;
    }

    public int restore() {
        if (!kept.hasRiver()) {
            return STATE;
        }
        world.copyFrom(kept);
        return world.today;
    }

    public int count(int what) {
        switch (what) {
            case 0: return world.people;
            case 1: return world.matters;
            case 2: return world.today;
            case 3: return Integer.bitCount(world.speakersOn(world.today));
            case 4: return Integer.bitCount(world.right);
            case 5: return world.howManyStand(World.STANDS_ASKED);
            case 6: return world.howManyStand(World.STANDS_SETTLED);
            case 7: return world.total;
            case 8: return world.seen.size;
            case 9: return page.length;
            case 10: return readings;
            case 11: return plans;
            default: return OUTSIDE;
        }
    }

    public long digest() {
        long h = 1279;
        for (int p = 0; p < world.people; p++) {
            for (int what = 0; what <= 7; what++) {
                h = 31 * h + person(p, what);
            }
        }
        for (int m = 0; m < world.matters; m++) {
            for (int what = 0; what <= 6; what++) {
                h = 31 * h + matter(m, what);
            }
        }
        if (world.hasRiver()) {
            h = withDates(h);
            h = 31 * h + live(0);
            h = 31 * h + live(1);
        }
        for (int i = 0; i < page.length; i++) {
            h = 31 * h + page.letters[i];
        }
        for (int what = 0; what <= 11; what++) {
            h = 31 * h + count(what);
        }
        return h;
    }

    private long withDates(long start) {
        long h = start;
        for (int days = 0; days <= 40; days += 40) {
            for (int what = 0; what <= 3; what++) {
                h = 31 * h + date(days, what);
            }
        }
        return h;
    }

    /** The letters that wait to be read as a RIVER. */
    private static final class Page {
        static final int MOST = 44;
        private static final String KIND_LETTERS = "pmtdf";

        final int[] letters = new int[MOST];
        int length;

        boolean append(int code) {
            if (length >= MOST) {
                return false;
            }
            letters[length] = code;
            length++;
            return true;
        }

        int firstFault() {
            int people = 0;
            for (int place = 0; place < length; place++) {
                boolean fits = people == 0 ? fitsPeople(place) : fitsMatters(place, people);
                if (!fits) {
                    return place;
                }
                if (letters[place] == ';') {
                    people = place / 4 + 1;
                }
            }
            return length;
        }

        // Each one and each MATTER is three letters and a sign behind them, so
        // a place tells by 4 which of them it is, and its rest which letter.
        private boolean fitsPeople(int place) {
            int letter = letters[place];
            int behind = place / 4 + 1;
            switch (place % 4) {
                case 0: return kindOf(letter) >= 0;
                case 1: return letter == 'l' || letter == 'r';
                case 2: return letter >= '0' && letter <= '9';
                default:
                    return letter == ',' && behind < World.MOST_PEOPLE || letter == ';' && behind >= 2;
            }
        }

        private boolean fitsMatters(int place, int people) {
            int letter = letters[place];
            int behind = place / 4 + 1 - people;
            boolean isPerson = letter >= '0' && letter < '0' + people;
            switch (place % 4) {
                case 0: return isPerson;
                case 1: return isPerson && letter != letters[place - 1];
                case 2: return letter >= '1' && letter <= '9';
                default: return letter == ',' && behind < World.MOST_MATTERS;
            }
        }

        boolean isWhole() {
            return length % 4 == 3 && firstFault() == length && peopleTold() > 0;
        }

        /** How many PEOPLE stand ahead of the first ';' (0: there is no ';'). */
        private int peopleTold() {
            for (int place = 3; place < length; place += 4) {
                if (letters[place] == ';') {
                    return place / 4 + 1;
                }
            }
            return 0;
        }

        /** Only for a page that isWhole. */
        void readInto(World world) {
            int people = peopleTold();
            int items = (length + 1) / 4;
            world.begin(people, items - people);
            for (int p = 0; p < world.people; p++) {
                int place = p * 4;
                world.place(p, kindOf(letters[place]), letters[place + 1] == 'r', letters[place + 2] - '0');
            }
            for (int m = 0; m < world.matters; m++) {
                int place = (people + m) * 4;
                world.asks[m] = letters[place] - '0';
                world.answers[m] = letters[place + 1] - '0';
                world.worth[m] = letters[place + 2] - '0';
                world.asked[m] = World.OPEN;
            }
        }

        private static int kindOf(int letter) {
            return KIND_LETTERS.indexOf((char) letter);
        }
    }

    /** The days, counted from 1 January of YEAR 0, and who has the word on each. */
    private static final class Calendar {
        static final int LEFT_MAY = 1, RIGHT_MAY = 2, FIRST = 4;

        private static final int[] MONTHS = {31, 28, 31, 30, 31, 30, 31, 31, 30, 31, 30, 31};
        private static final int YEAR_DAYS = 365, LEAP_YEAR_FROM = 3 * YEAR_DAYS, FOUR_YEARS = 1461;
        private static final int MONTH_UNIT = 32;
        private static final int LEAP_DAY = 2 * MONTH_UNIT + 29;

        private Calendar() {
        }

        static int yearOf(int day) {
            return day / FOUR_YEARS * 4 + Math.min(day % FOUR_YEARS / YEAR_DAYS, 3);
        }

        static int monthOf(int day) {
            return monthAndDate(day) / MONTH_UNIT;
        }

        static int dateOf(int day) {
            return monthAndDate(day) % MONTH_UNIT;
        }

        /** Which BANK has the word (as bits), and whether it is the first of a month. */
        static int voicesOn(int day) {
            int found = monthAndDate(day);
            if (found == LEAP_DAY) {
                return LEFT_MAY | RIGHT_MAY;
            }
            int date = found % MONTH_UNIT;
            int bank = date % 2 == 1 ? LEFT_MAY : RIGHT_MAY;
            return date == 1 ? bank | FIRST : bank;
        }

        // Of each four YEARS the last has the leap day, so the others are alike.
        private static int monthAndDate(int day) {
            int inFour = day % FOUR_YEARS;
            boolean leap = inFour >= LEAP_YEAR_FROM;
            int left = leap ? inFour - LEAP_YEAR_FROM : inFour % YEAR_DAYS;
            int month = 0;
            for (int i = 0; i < MONTHS.length; i++) {
                int length = i == 1 && leap ? MONTHS[i] + 1 : MONTHS[i];
                if (left < length) {
                    month = i;
                    break;
                }
                left -= length;
            }
            return (month + 1) * MONTH_UNIT + left + 1;
        }
    }

    /** KINDS, and SORTS: a KIND with where one was BORN, as told by bits. */
    private static final class Sort {
        static final int MUTE = 1, DEAF = 4, KINDS = 5;
        static final int ALL = 1023;

        private static final int BOTH_BORN = 1 | 1 << KINDS;
        private static final int PERSONS = BOTH_BORN, TWINS = BOTH_BORN << 2;
        private static final int MUTES = BOTH_BORN << 1 | BOTH_BORN << 4;
        private static final int DRUNK_LEFT = 1 << 3, DRUNK_RIGHT = 1 << 3 + KINDS;

        private Sort() {
        }

        /** Whether one of this KIND is one of that KIND, too. */
        static boolean isKind(int kind, int that) {
            return that == 0 || kind == that || kind == DEAF && that == MUTE;
        }

        /** The SORTS that MAY SPEAK on a DAY of such voices, on that BANK. */
        static int speaking(int voices, int bank) {
            boolean bankMay = (voices >> bank & 1) == 1;
            int sorts = MUTES;
            if (bankMay) {
                sorts |= PERSONS;
            }
            if (bankMay || (voices & Calendar.FIRST) != 0) {
                sorts |= TWINS;
            }
            if ((voices & Calendar.LEFT_MAY) != 0) {
                sorts |= DRUNK_LEFT;
            }
            if ((voices & Calendar.RIGHT_MAY) != 0) {
                sorts |= DRUNK_RIGHT;
            }
            return sorts;
        }
    }

    /** What is SEEN of PEOPLE. */
    private static final class Sightings {
        private static final int MOST = 6;

        private final int[] who = new int[MOST];
        private final int[] days = new int[MOST];
        private final boolean[] spoke = new boolean[MOST];
        int size;

        boolean add(int person, int inDays, boolean speaks) {
            if (size >= MOST) {
                return false;
            }
            who[size] = person;
            days[size] = inDays;
            spoke[size] = speaks;
            size++;
            return true;
        }

        /** The SORTS that one on this BANK can be of, as it is today. */
        int sortsLeft(int person, int bank, int today) {
            int sorts = Sort.ALL;
            for (int i = 0; i < size; i++) {
                if (who[i] == person) {
                    int speaking = Sort.speaking(Calendar.voicesOn(today + days[i]), bank);
                    sorts &= spoke[i] ? speaking : ~speaking;
                }
            }
            return sorts;
        }

        void copyFrom(Sightings other) {
            size = other.size;
            for (int i = 0; i < MOST; i++) {
                who[i] = other.who[i];
                days[i] = other.days[i];
                spoke[i] = other.spoke[i];
            }
        }
    }

    /** PEOPLE and MATTERS as they stand on a DAY: what an IMAGE keeps. */
    private static final class World {
        static final int MOST_PEOPLE = 6, MOST_MATTERS = 5;
        // A MATTER that is ASKED is told by the DAY of that: 0 at least.
        static final int OPEN = -1, SETTLED = -2;
        static final int STANDS_OPEN = 0, STANDS_ASKED = 1, STANDS_SETTLED = 2;

        final int[] kind = new int[MOST_PEOPLE];
        final int[] born = new int[MOST_PEOPLE];
        final int[] memory = new int[MOST_PEOPLE];
        final int[] asks = new int[MOST_MATTERS];
        final int[] answers = new int[MOST_MATTERS];
        final int[] worth = new int[MOST_MATTERS];
        final int[] asked = new int[MOST_MATTERS];
        final Sightings seen = new Sightings();
        int people;
        int matters;
        int right;
        int today;
        int total;

        boolean hasRiver() {
            return people > 0;
        }

        boolean knowsPerson(int person) {
            return person >= 0 && person < people;
        }

        boolean knowsMatter(int matter) {
            return matter >= 0 && matter < matters;
        }

        void begin(int howManyPeople, int howManyMatters) {
            people = Math.min(howManyPeople, MOST_PEOPLE);
            matters = Math.min(howManyMatters, MOST_MATTERS);
            right = 0;
            today = 0;
            total = 0;
            seen.size = 0;
        }

        void place(int person, int ofKind, boolean bornRight, int remembers) {
            kind[person] = ofKind;
            born[person] = bornRight ? 1 : 0;
            memory[person] = remembers;
            right |= born[person] << person;
        }

        int bankOf(int person) {
            return right >> person & 1;
        }

        boolean speaks(int person, int day) {
            return speaksWith(Calendar.voicesOn(day), person, bankOf(person));
        }

        private boolean speaksWith(int voices, int person, int bank) {
            int sort = kind[person] + Sort.KINDS * born[person];
            return (Sort.speaking(voices, bank) >> sort & 1) == 1;
        }

        int speakersOn(int day) {
            return speakersIf(day, right);
        }

        /** Who would SPEAK on a DAY, if these were on the right. */
        int speakersIf(int day, int onRight) {
            int voices = Calendar.voicesOn(day);
            int speakers = 0;
            for (int p = 0; p < people; p++) {
                if (speaksWith(voices, p, onRight >> p & 1)) {
                    speakers |= 1 << p;
                }
            }
            return speakers;
        }

        int speakingDays(int person) {
            int many = 0;
            for (int days = 0; days < 31; days++) {
                if (speaks(person, today + days)) {
                    many++;
                }
            }
            return many;
        }

        int possibleSorts(int person) {
            return seen.sortsLeft(person, bankOf(person), today);
        }

        int dayToListen(int person) {
            int sorts = possibleSorts(person);
            if (sorts == 0) {
                return NONE;
            }
            int bank = bankOf(person);
            int fewest = Sort.ALL;
            int chosen = 0;
            for (int days = 0; days <= 31; days++) {
                int speaking = Sort.speaking(Calendar.voicesOn(today + days), bank);
                int left = Math.max(Integer.bitCount(sorts & speaking), Integer.bitCount(sorts & ~speaking));
                if (left < fewest) {
                    fewest = left;
                    chosen = days;
                }
            }
            return chosen;
        }

        int standing(int matter) {
            if (asked[matter] == SETTLED) {
                return STANDS_SETTLED;
            }
            return asked[matter] == OPEN ? STANDS_OPEN : STANDS_ASKED;
        }

        int howManyStand(int so) {
            int many = 0;
            for (int m = 0; m < matters; m++) {
                if (standing(m) == so) {
                    many++;
                }
            }
            return many;
        }

        int askedSince(int matter) {
            return standing(matter) == STANDS_ASKED ? today - asked[matter] : NONE;
        }

        int worthToday(int matter) {
            boolean can = standing(matter) == STANDS_ASKED
                && canBeSaid(matter, asked[matter], today, speakersOn(today));
            return can ? settledFor(matter, asked[matter], today) : NONE;
        }

        /** Whether a MATTER that stands so can be ASKED or ANSWERED by those who SPEAK on a DAY. */
        boolean canBeSaid(int matter, int standsAsked, int day, int speakers) {
            if (standsAsked == SETTLED) {
                return false;
            }
            if (standsAsked == OPEN) {
                return (speakers >> asks[matter] & 1) == 1;
            }
            return standsAsked < day && (speakers >> answers[matter] & 1) == 1;
        }

        /** For how much a MATTER is SETTLED, if it was ASKED on that DAY and is ANSWERED on this. */
        int settledFor(int matter, int askedOn, int day) {
            int asker = asks[matter];
            int answerer = answers[matter];
            if (!knowsPerson(asker) || !knowsPerson(answerer)) {
                return 0;
            }
            int forgotten = Math.max(day - askedOn - memory[asker], 0);
            int left = Math.max(worth[matter] - forgotten, 0);
            if (kind[answerer] == Sort.DEAF) {
                return Math.max(left - 1, 0);
            }
            return kind[answerer] == Sort.MUTE ? left / 2 : left;
        }

        int reopenAskedBy(int person) {
            int many = 0;
            for (int m = 0; m < matters; m++) {
                if (asks[m] == person && standing(m) == STANDS_ASKED) {
                    asked[m] = OPEN;
                    many++;
                }
            }
            return many;
        }

        void copyFrom(World other) {
            System.arraycopy(other.kind, 0, kind, 0, MOST_PEOPLE);
            System.arraycopy(other.born, 0, born, 0, MOST_PEOPLE);
            System.arraycopy(other.memory, 0, memory, 0, MOST_PEOPLE);
            System.arraycopy(other.asks, 0, asks, 0, MOST_MATTERS);
            System.arraycopy(other.answers, 0, answers, 0, MOST_MATTERS);
            System.arraycopy(other.worth, 0, worth, 0, MOST_MATTERS);
            System.arraycopy(other.asked, 0, asked, 0, MOST_MATTERS);
            seen.copyFrom(other.seen);
            people = other.people;
            matters = other.matters;
            right = other.right;
            today = other.today;
            total = other.total;
        }
    }

    /** SOON, LIVE and FOG: what would be, without anything being done. */
    private static final class Outlook {
        private static final int LATEST = 70;

        private Outlook() {
        }

        static int soonest(World world, int matter) {
            int asked = world.asked[matter];
            for (int days = 0; days <= LATEST && asked != World.SETTLED; days++) {
                int day = world.today + days;
                if (world.canBeSaid(matter, asked, day, world.speakersOn(day))) {
                    if (asked != World.OPEN) {
                        return days;
                    }
                    asked = day;
                }
            }
            return NONE;
        }

        /** Who should be on the right, as bits. */
        static int bestHomes(World world) {
            int all = (1 << world.people) - 1;
            int leftToday = world.speakersIf(world.today, 0);
            int rightToday = world.speakersIf(world.today, all);
            int leftTomorrow = world.speakersIf(world.today + 1, 0);
            int rightTomorrow = world.speakersIf(world.today + 1, all);
            int chosen = world.right;
            int most = -1;
            int fewest = 0;
            for (int right = 0; right <= all; right++) {
                int today = leftToday & ~right | rightToday & right;
                int tomorrow = leftTomorrow & ~right | rightTomorrow & right;
                int settled = settledBy(world, today, tomorrow);
                int moved = Integer.bitCount(right ^ world.right);
                if (settled > most || settled == most && moved < fewest) {
                    most = settled;
                    fewest = moved;
                    chosen = right;
                }
            }
            return chosen;
        }

        /** How many that are OPEN can be SETTLED today and tomorrow, if these were on the right. */
        static int settledByTomorrow(World world, int right) {
            return settledBy(world, world.speakersIf(world.today, right), world.speakersIf(world.today + 1, right));
        }

        private static int settledBy(World world, int speakToday, int speakTomorrow) {
            int many = 0;
            for (int m = 0; m < world.matters; m++) {
                boolean asked = world.asked[m] == World.OPEN && (speakToday >> world.asks[m] & 1) == 1;
                if (asked && (speakTomorrow >> world.answers[m] & 1) == 1) {
                    many++;
                }
            }
            return many;
        }

        /** In how many of 10 to the power of days cases the MATTER is SETTLED. */
        static int partsSettled(World world, int matter, int days, int tenths) {
            int begun = world.asked[matter];
            int clear = 10 - tenths;
            int open = begun == World.OPEN ? 1 : 0;
            int asked = 1 - open;
            int settled = 0;
            for (int i = 0; i < days; i++) {
                int day = world.today + i;
                int speakers = world.speakersOn(day);
                int nowAsked = world.canBeSaid(matter, World.OPEN, day, speakers) ? open * clear : 0;
                // Behind the first DAY all that is ASKED was so on an earlier one.
                int askedOn = i == 0 ? begun : day - 1;
                int nowSettled = asked > 0 && world.canBeSaid(matter, askedOn, day, speakers) ? asked * clear : 0;
                open = open * 10 - nowAsked;
                asked = asked * 10 + nowAsked - nowSettled;
                settled = settled * 10 + nowSettled;
            }
            return settled;
        }

        /** What is above, or below, of so many parts of 10 to the power of days. */
        static int lowestTerms(int parts, int days, boolean tellAbove) {
            int above = parts;
            int below = 1;
            for (int i = 0; i < days; i++) {
                below *= 10;
            }
            for (int i = 0; i < days; i++) {
                if (above % 2 == 0) {
                    above /= 2;
                    below /= 2;
                }
                if (above % 5 == 0) {
                    above /= 5;
                    below /= 5;
                }
            }
            return tellAbove ? above : below;
        }
    }

    /** BEST: what to say day by day. */
    private static final class Plan {
        static final int LONGEST = 5;
        private static final int NOTHING = 7;

        private final int[] speakers = new int[LONGEST];
        private final int[] tried = new int[LONGEST];
        private final int[] chosen = new int[LONGEST];
        private final int[] asked = new int[World.MOST_MATTERS];
        private int days;
        private int stillAsked;
        int worth;
        int settled;

        /** For 1 to LONGEST days. */
        void make(World world, int howManyDays) {
            days = Math.min(howManyDays, LONGEST);
            worth = -1;
            settled = -1;
            stillAsked = -1;
            for (int i = 0; i < days; i++) {
                speakers[i] = world.speakersOn(world.today + i);
            }
            System.arraycopy(world.asked, 0, asked, 0, World.MOST_MATTERS);
            search(this, world, 0, 0, 0);
        }

        int matterOn(int day) {
            return day >= 0 && day < days ? chosen[day] : NONE;
        }

        // Goes through all that can be said, first by numbers, so that of like
        // ones the first is kept.
        private static void search(Plan plan, World world, int depth, int worth, int settled) {
            if (depth >= plan.days) {
                plan.keepIfBetter(world, worth, settled);
                return;
            }
            int day = world.today + depth;
            for (int m = 0; m < world.matters; m++) {
                int stood = plan.asked[m];
                if (!world.canBeSaid(m, stood, day, plan.speakers[depth])) {
                    continue;
                }
                plan.tried[depth] = m;
                if (stood == World.OPEN) {
                    plan.asked[m] = day;
                    search(plan, world, depth + 1, worth, settled);
                } else {
                    plan.asked[m] = World.SETTLED;
                    search(plan, world, depth + 1, worth + world.settledFor(m, stood, day), settled + 1);
                }
                plan.asked[m] = stood;
            }
            plan.tried[depth] = NOTHING;
            search(plan, world, depth + 1, worth, settled);
        }

        private void keepIfBetter(World world, int newWorth, int newSettled) {
            if (newWorth < worth || newWorth == worth && newSettled < settled) {
                return;
            }
            int newAsked = howManyAsked(world.matters);
            if (newWorth == worth && newSettled == settled && newAsked <= stillAsked) {
                return;
            }
            worth = newWorth;
            settled = newSettled;
            stillAsked = newAsked;
            System.arraycopy(tried, 0, chosen, 0, LONGEST);
        }

        private int howManyAsked(int matters) {
            int many = 0;
            for (int m = 0; m < matters; m++) {
                if (asked[m] >= 0) {
                    many++;
                }
            }
            return many;
        }
    }

    /** YEARS by a SEED. */
    private static final class Course {
        private static final long LAST_SEED = 2147483647L;

        private final int[] asked = new int[World.MOST_MATTERS];
        int worth;
        int settled;
        int seed;

        void run(World world, int days, int firstSeed) {
            System.arraycopy(world.asked, 0, asked, 0, World.MOST_MATTERS);
            worth = 0;
            settled = 0;
            seed = firstSeed;
            for (int i = 0; i < days; i++) {
                passDay(world, world.today + i);
            }
        }

        private void passDay(World world, int day) {
            int m = draw(world.matters);
            int stood = asked[m];
            if (!world.canBeSaid(m, stood, day, world.speakersOn(day))) {
                return;
            }
            if (stood == World.OPEN) {
                asked[m] = day;
                return;
            }
            worth += world.settledFor(m, stood, day);
            settled++;
            asked[m] = World.OPEN;
        }

        private int draw(int of) {
            // The rest by 2 to the 31 as a mask: none is below 0, so each DRAW names a MATTER.
            seed = (int) ((1103515245L * seed + 12345L) & LAST_SEED);
            return of > 0 ? seed / 65536 % of : 0;
        }
    }
}
