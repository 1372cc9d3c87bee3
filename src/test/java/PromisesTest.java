/** Each promise of the document by answers that were worked out by hand. */
public final class PromisesTest {
    private static int wrong;
    private static int promise;

    private static void due(String what, long got, long want) {
        if (got != want) {
            wrong++;
            System.out.println("promise " + promise + ": " + what + " answered " + got + ", due is " + want);
        }
    }

    private static OddBank page(String text) {
        OddBank x = new OddBank();
        write(x, text);
        return x;
    }

    private static void write(OddBank x, String text) {
        for (int i = 0; i < text.length(); i++) {
            x.letter(text.charAt(i));
        }
    }

    private static OddBank river(String text) {
        OddBank x = page(text);
        due("river() of " + text, x.river(), text.indexOf(';') / 4 + 1);
        return x;
    }

    private static void pass(OddBank x, int days) {
        for (int i = 0; i < days; i++) {
            x.day();
        }
    }

    private static void newObject() {
        OddBank x = new OddBank();
        for (int what = 0; what <= 11; what++) {
            due("count(" + what + ")", x.count(what), 0);
        }
        due("person(0, 0)", x.person(0, 0), OddBank.UNKNOWN);
        due("matter(0, 0)", x.matter(0, 0), OddBank.UNKNOWN);
        due("as(0, 0)", x.as(0, 0), OddBank.UNKNOWN);
        due("date(0, 0)", x.date(0, 0), OddBank.STATE);
        due("NONE", OddBank.NONE, -1);
        due("UNKNOWN", OddBank.UNKNOWN, -101);
        due("OUTSIDE", OddBank.OUTSIDE, -102);
        due("STATE", OddBank.STATE, -103);
        due("FULL", OddBank.FULL, -104);
    }

    private static void letter() {
        OddBank x = new OddBank();
        due("letter(0)", x.letter(0), OddBank.OUTSIDE);
        due("letter(127)", x.letter(127), OddBank.OUTSIDE);
        due("letter(MIN)", x.letter(Integer.MIN_VALUE), OddBank.OUTSIDE);
        due("letter(MAX)", x.letter(Integer.MAX_VALUE), OddBank.OUTSIDE);
        for (int i = 1; i <= 44; i++) {
            due("letter " + i, x.letter(i % 2 == 0 ? 126 : 1), i);
        }
        due("letter 45", x.letter(1), OddBank.FULL);
        due("letter 45, outside too", x.letter(0), OddBank.OUTSIDE);
        due("count(9)", x.count(9), 44);
    }

    private static void blank() {
        OddBank x = page("pl0");
        due("blank()", x.blank(), 3);
        due("blank()", x.blank(), 0);
        due("letter", x.letter('p'), 1);
    }

    private static void fault() {
        due("of none", page("").fault(), 0);
        due("a beginning", page("pl0,m").fault(), 5);
        due("no KIND", page("xl0").fault(), 0);
        due("no BANK", page("px0").fault(), 1);
        due("no MEMORY", page("plx").fault(), 2);
        due("';' behind one", page("pl0;").fault(), 3);
        due("',' behind six", page("pl0,pl0,pl0,pl0,pl0,pl0,").fault(), 23);
        due("';' behind six", page("pl0,pl0,pl0,pl0,pl0,pl0;").fault(), 24);
        due("who ASKS is none", page("pl0,pl0;2").fault(), 8);
        due("who ASKS is one", page("pl0,pl0;1").fault(), 9);
        due("who ANSWERS is none", page("pl0,pl0;02").fault(), 9);
        due("who ANSWERS is alike", page("pl0,pl0;00").fault(), 9);
        due("WORTH 0", page("pl0,pl0;010").fault(), 10);
        due("WORTH 9", page("pl0,pl0;019").fault(), 11);
        due("';' behind a MATTER", page("pl0,pl0;019;").fault(), 11);
        due("',' behind four", page("pl0,pl0;019,019,019,019,").fault(), 24);
        due("',' behind five", page("pl0,pl0;019,019,019,019,019,").fault(), 27);
        due("all of 43", page("pl0,mr9,tl5,dr1,fl9,pr0;019,125,234,347,458").fault(), 43);
        due("44", page("pl0,mr9,tl5,dr1,fl9,pr0;019,125,234,347,458,").fault(), 43);
        due("the first of two", page("px0,x").fault(), 1);
    }

    private static void riverRead() {
        due("of none", page("").river(), OddBank.STATE);
        due("no MATTER", page("pl0,pl0;").river(), OddBank.STATE);
        due("no ';'", page("pl0,pl0").river(), OddBank.STATE);
        due("',' at the end", page("pl0,pl0;011,").river(), OddBank.STATE);
        due("half a MATTER", page("pl0,pl0;01").river(), OddBank.STATE);
        OddBank x = page("pl0,pl0;01x");
        due("a wrong one", x.river(), OddBank.STATE);
        due("THE PAGE stays", x.count(9), 11);
        x.blank();
        write(x, "pl0,mr9,tl5,dr1,fl9,pr0;019,125,234,347,458");
        due("river()", x.river(), 6);
        due("THE PAGE is empty", x.count(9), 0);
        due("count(1)", x.count(1), 5);
        x.say(0);
        x.day();
        x.say(0);
        x.see(0, 0, true);
        x.cross(0);
        x.best(1, 0);
        x.image();
        due("no RIVER on THE PAGE", x.river(), OddBank.STATE);
        due("nothing has changed", x.count(7), 4);
        write(x, "mr3,pl0;108");
        due("another", x.river(), 2);
        int[] counts = {2, 1, 0, 2, 1, 0, 0, 0, 0, 0, 2, 1};
        for (int what = 0; what <= 11; what++) {
            due("count(" + what + ") then", x.count(what), counts[what]);
        }
        due("restore() then", x.restore(), OddBank.STATE);
        due("who ASKS", x.matter(0, 0), 1);
        due("who ANSWERS", x.matter(0, 1), 0);
        due("WORTH", x.matter(0, 2), 8);
    }

    private static void person() {
        OddBank x = river("pl0,mr9,tr5,dr1,fl9;019");
        int[][] told = {{0, 0, 0, 0, 1, 16}, {1, 1, 1, 9, 1, 31}, {2, 1, 1, 5, 1, 16}, {3, 1, 1, 1, 0, 15}, {4, 0, 0, 9, 1, 31}};
        for (int p = 0; p < 5; p++) {
            for (int what = 0; what < 6; what++) {
                due("person(" + p + ", " + what + ")", x.person(p, what), told[p][what]);
            }
            due("SORTS", x.person(p, 6), 1023);
        }
        x.cross(0);
        x.cross(3);
        due("BORN stays", x.person(0, 1), 0);
        due("the BANK does not", x.person(0, 2), 1);
        due("he is silent then", x.person(0, 4), 0);
        due("DRUNK by where he was BORN", x.person(3, 4), 0);
        due("UNKNOWN", x.person(5, 0), OddBank.UNKNOWN);
        due("UNKNOWN first", x.person(-1, 8), OddBank.UNKNOWN);
        due("OUTSIDE", x.person(0, 8), OddBank.OUTSIDE);
        due("OUTSIDE", x.person(0, -1), OddBank.OUTSIDE);
        // 31 January and 1 February are two odd dates running.
        pass(x, 30);
        due("left on the 31st", x.date(0, 3), 0b10010);
        due("left on the first, and twins", x.date(1, 3), 0b10110);
        due("to 2 March: 14 even dates and one", x.person(0, 5), 15);
        due("and two firsts of a twin", x.person(2, 5), 17);
    }

    private static void as() {
        OddBank x = river("pl0,mr9,tr5,dr1,fl9;019");
        int[][] told = {{0, -1, -1, -1, -1}, {1, 1, -1, -1, -1}, {2, -1, 2, -1, -1}, {3, -1, -1, 3, -1}, {4, 4, -1, -1, 4}};
        for (int p = 0; p < 5; p++) {
            for (int kind = 0; kind < 5; kind++) {
                due("as(" + p + ", " + kind + ")", x.as(p, kind), told[p][kind]);
            }
        }
        due("UNKNOWN first", x.as(5, 5), OddBank.UNKNOWN);
        due("UNKNOWN", x.as(-1, 0), OddBank.UNKNOWN);
        due("OUTSIDE", x.as(0, 5), OddBank.OUTSIDE);
        due("OUTSIDE", x.as(0, -1), OddBank.OUTSIDE);
    }

    private static void matter() {
        OddBank x = river("pl0,pr2;019,105");
        due("who ASKS", x.matter(1, 0), 1);
        due("who ANSWERS", x.matter(1, 1), 0);
        due("WORTH", x.matter(1, 2), 5);
        due("OPEN", x.matter(0, 3), 0);
        due("not ASKED", x.matter(0, 4), -1);
        due("not to be SETTLED", x.matter(0, 5), -1);
        due("SOON, left asks", x.matter(0, 6), 1);
        due("SOON, right asks", x.matter(1, 6), 2);
        x.say(0);
        due("ASKED", x.matter(0, 3), 1);
        due("ASKED today", x.matter(0, 4), 0);
        due("not on the same DAY", x.matter(0, 5), -1);
        x.day();
        due("ASKED yesterday", x.matter(0, 4), 1);
        due("beyond MEMORY 0", x.matter(0, 5), 8);
        due("SOON today", x.matter(0, 6), 0);
        pass(x, 10);
        due("10 beyond, of 9", x.matter(0, 5), 0);
        x.say(0);
        due("SETTLED", x.matter(0, 3), 2);
        due("not ASKED any more", x.matter(0, 4), -1);
        due("not again", x.matter(0, 5), -1);
        due("no SOON", x.matter(0, 6), -1);
        due("UNKNOWN first", x.matter(2, 7), OddBank.UNKNOWN);
        due("UNKNOWN", x.matter(-1, 0), OddBank.UNKNOWN);
        due("OUTSIDE", x.matter(0, 7), OddBank.OUTSIDE);
        due("OUTSIDE", x.matter(0, -1), OddBank.OUTSIDE);
        // Right asks behind the 30th: 31st, 1st and only then the 2nd; left answers on the 3rd.
        pass(x, 19);
        due("SOON over the end of a month", x.matter(1, 6), 3);
    }

    private static void worths() {
        promise = 8;
        OddBank x = river("pl2,fr0,mr0,pr0;019,029,039,011,021");
        for (int m = 0; m < 5; m++) {
            due("ASKED", x.say(m), -1);
        }
        x.day();
        due("DEAF, 1 less", x.matter(0, 5), 8);
        due("MUTE, half, rounded down", x.matter(1, 5), 4);
        due("within MEMORY", x.matter(2, 5), 9);
        due("DEAF, of 1", x.matter(3, 5), 0);
        due("MUTE, of 1", x.matter(4, 5), 0);
        pass(x, 2);
        due("3 DAYS, MEMORY 2: DEAF", x.matter(0, 5), 7);
        due("3 DAYS, MEMORY 2: MUTE", x.matter(1, 5), 4);
        due("3 DAYS, MEMORY 2", x.matter(2, 5), 8);
        due("0 at least", x.matter(3, 5), 0);
        x.change(0, 0, 3);
        due("3 DAYS, MEMORY 3", x.matter(2, 5), 9);
        x.change(3, 1, 0);
        due("he is MUTE now", x.matter(2, 5), 4);
    }

    private static void date() {
        OddBank x = river("pl0,pr0;019");
        int[][] told = {{0, 1, 1, 0}, {30, 31, 1, 0}, {31, 1, 2, 0}, {58, 28, 2, 0}, {59, 1, 3, 0}, {89, 31, 3, 0},
            {90, 1, 4, 0}, {120, 1, 5, 0}, {151, 1, 6, 0}, {181, 1, 7, 0}, {212, 1, 8, 0}, {243, 1, 9, 0}, {273, 1, 10, 0},
            {304, 1, 11, 0}, {334, 1, 12, 0}, {364, 31, 12, 0}, {365, 1, 1, 1}, {366, 2, 1, 1}};
        for (int[] row : told) {
            for (int what = 0; what < 3; what++) {
                due("date(" + row[0] + ", " + what + ")", x.date(row[0], what), row[what + 1]);
            }
            due("date(" + row[0] + ", 3)", x.date(row[0], 3), row[1] % 2 == 1 ? 1 : 2);
        }
        due("OUTSIDE", x.date(-1, 0), OddBank.OUTSIDE);
        due("OUTSIDE", x.date(367, 0), OddBank.OUTSIDE);
        due("OUTSIDE", x.date(0, 4), OddBank.OUTSIDE);
        due("OUTSIDE", x.date(0, -1), OddBank.OUTSIDE);
        due("OUTSIDE first", new OddBank().date(0, 4), OddBank.OUTSIDE);
        due("STATE", new OddBank().date(366, 3), OddBank.STATE);
        // 29 February of YEAR 3: more calls than are promised, but the calendar has it.
        pass(x, 1154);
        due("the leap day", x.date(0, 0), 29);
        due("its month", x.date(0, 1), 2);
        due("its YEAR", x.date(0, 2), 3);
        due("both SPEAK", x.date(0, 3), 3);
        due("1 March", x.date(1, 0), 1);
        due("1 January of YEAR 4", x.date(307, 2), 4);
        due("1 January of YEAR 4", x.date(307, 0), 1);
    }

    private static void say() {
        OddBank x = river("pl0,pr0;019,105");
        due("UNKNOWN", x.say(2), OddBank.UNKNOWN);
        due("UNKNOWN", x.say(-1), OddBank.UNKNOWN);
        due("no RIVER", new OddBank().say(0), OddBank.UNKNOWN);
        due("right is silent", x.say(1), OddBank.STATE);
        due("left ASKS", x.say(0), -1);
        due("not again", x.say(0), OddBank.STATE);
        x.day();
        due("right ANSWERS", x.say(0), 8);
        due("for how much", x.count(7), 8);
        due("not again", x.say(0), OddBank.STATE);
        due("right ASKS", x.say(1), -1);
        x.day();
        due("left ANSWERS", x.say(1), 4);
        due("for how much", x.count(7), 12);
        OddBank mutes = river("ml9,mr9;019");
        due("MUTE ASKS", mutes.say(0), -1);
        due("not ANSWERED on that DAY", mutes.say(0), OddBank.STATE);
        mutes.day();
        due("MUTE ANSWERS", mutes.say(0), 4);
    }

    private static void day() {
        due("STATE", new OddBank().day(), OddBank.STATE);
        OddBank x = river("pl0,pr0;019");
        for (int day = 1; day <= 1460; day++) {
            due("day()", x.day(), day);
        }
        due("DAY 1461", x.day(), OddBank.FULL);
        due("nothing changed", x.count(2), 1460);
    }

    private static void cross() {
        OddBank x = river("pl0,pr0,ml0;015,015,105,205,026");
        due("UNKNOWN", x.cross(3), OddBank.UNKNOWN);
        due("UNKNOWN", x.cross(-1), OddBank.UNKNOWN);
        due("no RIVER", new OddBank().cross(0), OddBank.UNKNOWN);
        x.say(0);
        x.say(1);
        x.say(3);
        x.say(4);
        x.day();
        x.say(0);
        due("who ANSWERS reopens nothing", x.cross(1), 0);
        due("he is on the left", x.person(1, 2), 0);
        due("who ASKED reopens two", x.cross(0), 2);
        due("the SETTLED stays", x.matter(0, 3), 2);
        due("OPEN again", x.matter(1, 3), 0);
        due("another's stays", x.matter(3, 3), 1);
        due("OPEN again", x.matter(4, 3), 0);
        due("and back", x.cross(0), 0);
        due("he is on the left", x.person(0, 2), 0);
    }

    private static void open() {
        OddBank x = river("ml9,mr9;019,105");
        due("UNKNOWN first", x.open(2, 0), OddBank.UNKNOWN);
        due("UNKNOWN", x.open(-1, 1), OddBank.UNKNOWN);
        due("OUTSIDE", x.open(0, 0), OddBank.OUTSIDE);
        due("OUTSIDE", x.open(0, 10), OddBank.OUTSIDE);
        due("it was OPEN", x.open(0, 1), 0);
        x.say(0);
        due("it was ASKED", x.open(0, 6), 1);
        due("it is OPEN", x.matter(0, 3), 0);
        due("another WORTH", x.matter(0, 2), 6);
        x.say(0);
        x.day();
        due("SETTLED", x.say(0), 3);
        due("it was SETTLED", x.open(0, 9), 2);
        due("what it was SETTLED for stays", x.count(7), 3);
    }

    private static void change() {
        OddBank x = river("pl0,fr9;019");
        due("UNKNOWN first", x.change(2, 5, 10), OddBank.UNKNOWN);
        due("UNKNOWN", x.change(-1, 0, 0), OddBank.UNKNOWN);
        due("OUTSIDE", x.change(0, 5, 0), OddBank.OUTSIDE);
        due("OUTSIDE", x.change(0, -1, 0), OddBank.OUTSIDE);
        due("OUTSIDE", x.change(0, 0, 10), OddBank.OUTSIDE);
        due("OUTSIDE", x.change(0, 0, -1), OddBank.OUTSIDE);
        due("he was DEAF", x.change(1, 3, 0), 4);
        due("he is DRUNK", x.person(1, 0), 3);
        due("another MEMORY", x.person(1, 3), 0);
        due("he is silent", x.person(1, 4), 0);
        due("he was DRUNK", x.change(1, 4, 9), 3);
        due("he SPEAKS", x.person(1, 4), 1);
    }

    private static void best() {
        OddBank x = river("pl0,pr0;015,105");
        due("OUTSIDE", x.best(0, 0), OddBank.OUTSIDE);
        due("OUTSIDE", x.best(6, 0), OddBank.OUTSIDE);
        due("OUTSIDE", x.best(1, 2), OddBank.OUTSIDE);
        due("OUTSIDE", x.best(1, 9), OddBank.OUTSIDE);
        due("OUTSIDE", x.best(1, 15), OddBank.OUTSIDE);
        due("OUTSIDE", x.best(1, -1), OddBank.OUTSIDE);
        due("STATE", new OddBank().best(1, 0), OddBank.STATE);
        due("OUTSIDE first", new OddBank().best(6, 0), OddBank.OUTSIDE);
        due("refusals do not count", x.count(11), 0);
        due("1 DAY, nothing SETTLED", x.best(1, 0), 0);
        due("but ASKED", x.best(1, 10), 0);
        due("there is no second DAY", x.best(1, 11), -1);
        due("that counts", x.count(11), 3);
        // Left ASKS 0 on the 1st, right ANSWERS on the 2nd for 4; right ASKS 1 on the 4th, left ANSWERS on the 5th.
        due("5 DAYS", x.best(5, 0), 8);
        due("how many", x.best(5, 1), 2);
        int[] said = {0, 0, 7, 1, 1};
        for (int i = 0; i < 5; i++) {
            due("5 DAYS, " + i, x.best(5, 10 + i), said[i]);
        }
        // 0 on the 1st, 1 on the 2nd, its answer on the 3rd for 4, that of 0 on the 4th for 2.
        due("4 DAYS", x.best(4, 13), 0);
        for (int i = 12; i <= 20; i++) {
            due("best() no. " + i, x.best(2, 0), 4);
        }
        due("count(11)", x.count(11), 20);
        due("21st", x.best(1, 0), OddBank.STATE);
        due("21st, OUTSIDE", x.best(1, 7), OddBank.OUTSIDE);
        due("count(11)", x.count(11), 20);
        x.image();
        write(x, "pl0,pr0;019");
        x.river();
        due("20 times ever", x.best(1, 0), OddBank.STATE);
    }

    private static void bestTies() {
        promise = 15;
        // Both are SETTLED for 0: then most SETTLED, then most ASKED in the end, then first by numbers.
        OddBank zeros = river("ml0,mr0;011,101,011");
        due("for 0", zeros.best(4, 0), 0);
        due("still two", zeros.best(4, 1), 2);
        int[] said = {0, 0, 1, 1};
        for (int i = 0; i < 4; i++) {
            due("of like ones the first " + i, zeros.best(4, 10 + i), said[i]);
        }
        int[] three = {0, 0, 1};
        for (int i = 0; i < 3; i++) {
            due("then ASKED " + i, zeros.best(3, 10 + i), three[i]);
        }
        OddBank x = river("ml9,mr9;012,104");
        due("the dear one", x.best(2, 10), 1);
        due("for 2", x.best(2, 0), 2);
        due("nothing is left", x.best(5, 14), 7);
        due("ASKED 0, 0, 1, 1", x.best(5, 10), 0);
        // On the 2nd the left cannot ANSWER 0, but the MUTE can ANSWER 1, for half of 1.
        OddBank settles = river("ml9,pl9,mr9;015,021");
        due("for 0", settles.best(2, 0), 0);
        due("most are SETTLED", settles.best(2, 1), 1);
        due("ahead of the first by numbers", settles.best(2, 10), 1);
        due("it is ANSWERED", settles.best(2, 11), 1);
        // On the 2nd only the MUTE can ASK, so the left does on the 1st.
        OddBank asks = river("ml9,pl9,pl9;015,125");
        due("most are ASKED", asks.best(2, 10), 1);
        due("both", asks.best(2, 11), 0);
        OddBank late = river("pl0,ml0,pr9;019,212");
        // He forgets at once, so 9 less 1 by half is 4; ASKED on the 1st, ANSWERED on the 2nd.
        due("worth with MEMORY 0", late.best(2, 0), 4);
        late.say(0);
        late.day();
        due("ASKED ahead of it", late.best(1, 0), 4);
        due("it is ANSWERED", late.best(1, 10), 0);
    }

    private static void live() {
        OddBank x = river("pr0,pl0;019");
        due("OUTSIDE", x.live(2), OddBank.OUTSIDE);
        due("OUTSIDE", x.live(-1), OddBank.OUTSIDE);
        due("OUTSIDE first", new OddBank().live(2), OddBank.OUTSIDE);
        due("STATE", new OddBank().live(0), OddBank.STATE);
        due("left ASKS, right ANSWERS", x.live(0), 1);
        due("who is right", x.live(1), 2);
        x.day();
        due("tomorrow they are as they are", x.live(1), 1);
        due("nobody moved", x.person(0, 2), 1);
        x.say(0);
        due("it is not OPEN", x.live(0), 0);
        due("so all stay", x.live(1), 1);
        due("a twin on the first: all on the right", river("tr0,pr0;019").live(1), 3);
        OddBank firsts = river("pl0,pr0;019");
        pass(firsts, 30);
        due("31st and first: all on the left", firsts.live(1), 0);
        due("so that it is SETTLED", firsts.live(0), 1);
        // 0 and 1 ask one another: only one of two can be; the least of those that move fewest.
        OddBank y = river("pl0,pl0;015,105");
        due("one of two", y.live(0), 1);
        due("1 to the right", y.live(1), 1);
    }

    private static void fog() {
        OddBank x = river("ml9,mr9;019");
        due("UNKNOWN first", x.fog(1, 0, 0, 0), OddBank.UNKNOWN);
        due("UNKNOWN", x.fog(-1, 1, 0, 0), OddBank.UNKNOWN);
        due("OUTSIDE", x.fog(0, 0, 0, 0), OddBank.OUTSIDE);
        due("OUTSIDE", x.fog(0, 9, 0, 0), OddBank.OUTSIDE);
        due("OUTSIDE", x.fog(0, 1, -1, 0), OddBank.OUTSIDE);
        due("OUTSIDE", x.fog(0, 1, 11, 0), OddBank.OUTSIDE);
        due("OUTSIDE", x.fog(0, 1, 0, 2), OddBank.OUTSIDE);
        due("OUTSIDE", x.fog(0, 1, 0, -1), OddBank.OUTSIDE);
        due("1 DAY: 0", x.fog(0, 1, 5, 0), 0);
        due("of 1", x.fog(0, 1, 5, 1), 1);
        due("no fog: 1", x.fog(0, 2, 0, 0), 1);
        due("of 1", x.fog(0, 2, 0, 1), 1);
        due("all fog: 0", x.fog(0, 8, 10, 0), 0);
        due("of 1", x.fog(0, 8, 10, 1), 1);
        due("both clear: 49", x.fog(0, 2, 3, 0), 49);
        due("of 100", x.fog(0, 2, 3, 1), 100);
        // Not (no DAY clear, or just one of 8): 10^8 - 9^8 - 8 * 9^7 of 10^8.
        due("two of 8", x.fog(0, 8, 9, 0), 100000000 - 43046721 - 8 * 4782969);
        due("below", x.fog(0, 8, 9, 1), 100000000);
        x.say(0);
        due("ASKED today: not today", x.fog(0, 1, 0, 0), 0);
        x.day();
        due("ASKED ahead: today", x.fog(0, 1, 4, 0), 3);
        due("of 5", x.fog(0, 1, 4, 1), 5);
        x.say(0);
        due("OUTSIDE first", x.fog(0, 9, 0, 0), OddBank.OUTSIDE);
        due("SETTLED", x.fog(0, 1, 0, 0), OddBank.STATE);
        OddBank y = river("pl0,pr0;019");
        // Left on the 1st or 3rd, right behind it on the 2nd or 4th: 1/4 + 1/4 * 1/2 + 1/2 * 1/4 by halves.
        due("4 DAYS by halves", y.fog(0, 4, 5, 0), 1);
        due("of 2", y.fog(0, 4, 5, 1), 2);
    }

    private static void see() {
        OddBank x = river("pl0,pr0;019");
        due("UNKNOWN first", x.see(2, 32, true), OddBank.UNKNOWN);
        due("UNKNOWN", x.see(-1, 0, true), OddBank.UNKNOWN);
        due("OUTSIDE", x.see(0, -1, true), OddBank.OUTSIDE);
        due("OUTSIDE", x.see(0, 32, true), OddBank.OUTSIDE);
        due("1", x.see(0, 1, false), 1);
        // On the 2nd the left is silent: not MUTE, not DEAF, not DRUNK from the right.
        due("SORTS", x.person(0, 6), bits(0, 2, 3, 5, 7));
        due("not of another", x.person(1, 6), 1023);
        due("2", x.see(0, 31, true), 2);
        // On 1 February, an odd date, the left SPEAKS, and all these are of it.
        due("SORTS", x.person(0, 6), bits(0, 2, 3, 5, 7));
        due("LISTEN tells nothing more on most DAYS: the least", x.person(0, 7), 0);
        x.cross(0);
        // On the right he would SPEAK on the 2nd, but for a DRUNK from the left.
        due("the BANK where he is", x.person(0, 6), bits(3));
        due("LISTEN to one of one SORT", x.person(0, 7), 0);
        due("3", x.see(0, 0, false), 3);
        due("none", x.person(0, 6), 0);
        due("no LISTEN", x.person(0, 7), -1);
        x.see(1, 0, true);
        x.see(1, 0, true);
        due("6", x.see(1, 0, true), 6);
        due("7", x.see(1, 0, true), OddBank.FULL);
        due("OUTSIDE ahead of FULL", x.see(1, 32, true), OddBank.OUTSIDE);
        due("count(8)", x.count(8), 6);
        due("on the right, on the 1st", x.person(1, 6), bits(1, 2, 3, 4, 6, 7, 9));
        x.day();
        // What is SEEN goes along with the DAY: now it is of the 2nd.
        due("on the right, on the 2nd", x.person(1, 6), bits(0, 1, 2, 4, 5, 6, 7, 8, 9));
    }

    private static void listen() {
        promise = 6;
        OddBank x = river("pl0,pr0;019");
        // The 1st on the left: silent is only the DRUNK from the right (9 left);
        // the 2nd: SPEAK the MUTE, the DEAF and that DRUNK, five of ten.
        due("LISTEN on the left", x.person(0, 7), 1);
        // On the right: the 1st has SPEAK MUTE, DEAF, TWIN, DRUNK left: 7; the 2nd 9; the 3rd 5.
        due("LISTEN on the right", x.person(1, 7), 2);
    }

    private static int bits(int... places) {
        int all = 0;
        for (int place : places) {
            all |= 1 << place;
        }
        return all;
    }

    private static void forget() {
        due("no RIVER", new OddBank().forget(), 0);
        OddBank x = river("pl0,pr0;019");
        x.see(0, 1, false);
        x.see(1, 1, false);
        due("2", x.forget(), 2);
        due("0", x.forget(), 0);
        due("SORTS", x.person(0, 6), 1023);
        due("count(8)", x.count(8), 0);
    }

    private static void years() {
        OddBank x = river("ml9,mr9;019");
        due("OUTSIDE", x.years(0, 0, 0), OddBank.OUTSIDE);
        due("OUTSIDE", x.years(61, 0, 0), OddBank.OUTSIDE);
        due("OUTSIDE", x.years(1, -1, 0), OddBank.OUTSIDE);
        due("OUTSIDE", x.years(1, 0, 3), OddBank.OUTSIDE);
        due("OUTSIDE", x.years(1, 0, -1), OddBank.OUTSIDE);
        due("OUTSIDE first", new OddBank().years(0, 0, 0), OddBank.OUTSIDE);
        due("STATE", new OddBank().years(1, 0, 0), OddBank.STATE);
        due("the SEED behind 0", x.years(1, 0, 2), 12345);
        due("the SEED behind 1", x.years(1, 1, 2), 1103527590);
        due("ASKED, ANSWERED by turns: 60 DAYS", x.years(60, 0, 1), 30);
        due("for half of 9 each", x.years(60, 0, 0), 120);
        due("61 of them do not fit, 59 leave one ASKED", x.years(59, 0, 1), 29);
        due("nothing was done", x.matter(0, 3), 0);
        due("nothing was SETTLED", x.count(7), 0);
        due("it is the same DAY", x.count(2), 0);
        x.say(0);
        due("ASKED today, not ANSWERED today", x.years(2, 0, 1), 1);
        x.day();
        x.say(0);
        due("SETTLED ahead of it stays so", x.years(60, 5, 1), 0);
        due("for 0", x.years(60, 5, 0), 0);
        // Of two MATTERS: SEED 1 goes on to 1103527590, by 65536 is 16838, its rest by 2 is 0.
        OddBank y = river("ml9,mr9;019,109");
        y.say(0);
        y.day();
        due("0 is drawn, and ANSWERED", y.years(1, 1, 0), 4);
        // SEED 2 goes on to 2207042835 - 2147483648 = 59559187, by 65536 is 908: 0 again.
        due("0 is drawn", y.years(1, 2, 0), 4);
        // SEED 3: 3310558080 - 2147483648 = 1163074432, by 65536 is 17747: 1 is drawn, and ASKED.
        due("1 is drawn", y.years(1, 3, 0), 0);
        due("the SEED behind 3", y.years(1, 3, 2), 1163074432);
        due("the largest SEED", y.years(1, Integer.MAX_VALUE, 2), 1043980748);
    }

    private static void imageAndRestore() {
        due("image(): STATE", new OddBank().image(), OddBank.STATE);
        OddBank x = river("pl0,mr9,pr3;019,105,215");
        promise = 22;
        due("restore(): STATE", x.restore(), OddBank.STATE);
        x.say(0);
        x.see(0, 3, true);
        x.see(2, 3, false);
        x.day();
        x.say(0);
        x.say(2);
        promise = 21;
        due("image()", x.image(), 1);
        x.best(1, 0);
        long before = x.digest();
        x.day();
        due("SETTLED since", x.say(2), 2);
        x.change(0, 4, 8);
        x.change(1, 3, 2);
        x.cross(2);
        x.cross(0);
        x.open(1, 9);
        x.open(0, 3);
        x.forget();
        x.see(1, 0, false);
        x.day();
        x.letter('p');
        promise = 22;
        due("restore()", x.restore(), 1);
        due("THE PAGE is no part of it", x.blank(), 1);
        due("all is as it was", x.digest(), before);
        due("for how much", x.count(7), 4);
        due("SEEN", x.count(8), 2);
        x.day();
        due("once more", x.restore(), 1);
        due("all is as it was", x.digest(), before);
        x.day();
        promise = 21;
        due("the latest", x.image(), 2);
        x.day();
        due("the latest", x.restore(), 2);
        promise = 22;
        x.best(1, 0);
        x.restore();
        due("best() stays done", x.count(11), 2);
        write(x, "pl0,pr0;019");
        x.river();
        due("there is another RIVER since", x.restore(), OddBank.STATE);
    }

    private static void count() {
        OddBank x = river("pl0,mr9,pr3;019,105,215");
        due("OUTSIDE", x.count(12), OddBank.OUTSIDE);
        due("OUTSIDE", x.count(-1), OddBank.OUTSIDE);
        x.say(0);
        x.say(1);
        x.day();
        x.say(0);
        x.cross(1);
        x.see(0, 0, true);
        x.letter('p');
        x.letter('l');
        x.best(1, 0);
        int[] counts = {3, 3, 1, 2, 1, 0, 1, 4, 1, 2, 1, 1};
        for (int what = 0; what <= 11; what++) {
            due("count(" + what + ")", x.count(what), counts[what]);
        }
        x.say(2);
        due("ASKED", x.count(5), 1);
    }

    private static void digest() {
        OddBank x = new OddBank();
        long h = 1279;
        for (int what = 0; what < 12; what++) {
            h = 31 * h;
        }
        due("of none", x.digest(), h);
        x.letter('a');
        x.letter('b');
        int[] page = {'a', 'b', 0, 0, 0, 0, 0, 0, 0, 0, 0, 2, 0, 0};
        due("of THE PAGE", x.digest(), hash(page));
        OddBank y = river("pl0,pr2;019");
        int[] all = {0, 0, 0, 0, 1, 16, 1023, 1, 0, 1, 1, 2, 0, 15, 1023, 2, 0, 1, 9, 0, -1, -1, 1,
            1, 1, 0, 1, 10, 2, 0, 2, 1, 2, 2, 1, 0, 1, 1, 0, 0, 0, 0, 0, 1, 0};
        due("of a RIVER", y.digest(), hash(all));
        due("it changes nothing", y.digest(), hash(all));
    }

    private static long hash(int[] numbers) {
        long h = 1279;
        for (int number : numbers) {
            h = 31 * h + number;
        }
        return h;
    }

    private static void run(int number) {
        promise = number;
        switch (number) {
            case 1: newObject(); break;
            case 2: letter(); break;
            case 3: blank(); break;
            case 4: fault(); break;
            case 5: riverRead(); break;
            case 6: person(); listen(); break;
            case 7: as(); break;
            case 8: matter(); worths(); break;
            case 9: date(); break;
            case 10: say(); break;
            case 11: day(); break;
            case 12: cross(); break;
            case 13: open(); break;
            case 14: change(); break;
            case 15: best(); bestTies(); break;
            case 16: live(); break;
            case 17: fog(); break;
            case 18: see(); break;
            case 19: forget(); break;
            case 20: years(); break;
            case 21: imageAndRestore(); break;
            case 23: count(); break;
            case 24: digest(); break;
            default: break;
        }
    }

    public static void main(String[] args) {
        for (int number = 1; number <= 24; number++) {
            run(number);
        }
        System.out.println(wrong == 0 ? "all promises hold" : wrong + " answers are not as due");
        if (wrong != 0) {
            System.exit(1);
        }
    }
}
