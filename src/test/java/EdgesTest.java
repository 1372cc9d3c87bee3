import java.io.IOException;
import java.lang.annotation.Retention;
import java.lang.annotation.RetentionPolicy;
import java.lang.reflect.Method;
import java.lang.reflect.Modifier;
import java.math.BigInteger;
import java.nio.file.Files;
import java.nio.file.Path;
import java.util.ArrayList;
import java.util.Comparator;
import java.util.List;
import java.util.regex.Matcher;
import java.util.regex.Pattern;

/**
 * A test for each sentence of the document that names an edge: too small, too
 * large, empty, full, a wrap-around, a refused call. A test's name begins with
 * its promise's number, and it quotes the sentence that it is for.
 */
public final class EdgesTest {
    private static final int NONE = -1, UNKNOWN = -101, OUTSIDE = -102, STATE = -103, FULL = -104;
    private static final int MIN = Integer.MIN_VALUE, MAX = Integer.MAX_VALUE;

    /** The left asks the right. */
    private static final String PAIR = "pl0,pr0;019";
    /** Both may speak on every day. */
    private static final String MUTES = "ml9,mr9;019";
    /** As many as there can be, and every kind. */
    private static final String WHOLE = "pl0,mr9,tl5,dr1,fl9,pr0;019,125,234,347,458";
    /** One of each kind, the DEAF on the left, the others but the PERSON on the right. */
    private static final String KINDS = "pl0,mr9,tr5,dr1,fl9;019";

    /** Of DAY 1154, 29 February of YEAR 3. */
    private static final int LEAP_DAY = 1154;

    /** The words of the document that a test is for. */
    @Retention(RetentionPolicy.RUNTIME)
    private @interface Says {
        String value();
    }

    private interface Call {
        long on(OddBank x);
    }

    private static int wrong;
    private static String test = "";

    // ---- tools

    private static void due(String what, long got, long want) {
        if (got != want) {
            wrong++;
            System.out.println(test + ": " + what + " answered " + got + ", due is " + want);
        }
    }

    /** A call is refused so, and nothing is changed by it. */
    private static void refused(OddBank x, long why, String what, Call call) {
        long before = x.digest();
        due(what, call.on(x), why);
        due("digest() behind the refused " + what, x.digest(), before);
    }

    private static void write(OddBank x, String text) {
        for (int i = 0; i < text.length(); i++) {
            x.letter(text.charAt(i));
        }
    }

    private static OddBank page(String text) {
        OddBank x = new OddBank();
        write(x, text);
        due("letters of " + text, x.count(9), text.length());
        return x;
    }

    private static OddBank river(String text) {
        OddBank x = page(text);
        due("river() of " + text, x.river(), text.indexOf(';') / 4 + 1);
        return x;
    }

    private static void pass(OddBank x, int days) {
        for (int i = 0; i < days; i++) {
            x.day();
        }
    }

    private static OddBank riverOn(String text, int day) {
        OddBank x = river(text);
        pass(x, day);
        due("the DAY", x.count(2), day);
        return x;
    }

    /** A river whose matter 0 is settled, on DAY 1, for 4. */
    private static OddBank settledMutes() {
        OddBank x = river(MUTES);
        x.say(0);
        x.day();
        due("say(0)", x.say(0), 4);
        return x;
    }

    private static int bits(int... places) {
        int all = 0;
        for (int place : places) {
            all |= 1 << place;
        }
        return all;
    }

    private static String repeat(String text, int times, String between) {
        StringBuilder all = new StringBuilder();
        for (int i = 0; i < times; i++) {
            all.append(i == 0 ? "" : between).append(text);
        }
        return all.toString();
    }

    private static String people(int howMany) {
        return repeat("pl0", howMany, ",");
    }

    private static String matters(int howMany) {
        return repeat("019", howMany, ",");
    }

    private static long hash(int... numbers) {
        BigInteger h = BigInteger.valueOf(1279);
        for (int number : numbers) {
            h = h.multiply(BigInteger.valueOf(31)).add(BigInteger.valueOf(number));
        }
        return h.longValue();
    }

    // ---- promise 1: a new object

    @Says("No RIVER.")
    private static void p01NothingIsCounted() {
        OddBank x = new OddBank();
        for (int what = 0; what <= 11; what++) {
            due("count(" + what + ")", x.count(what), 0);
        }
    }

    @Says("At first there is none")
    private static void p01NobodyIsKnown() {
        OddBank x = new OddBank();
        refused(x, UNKNOWN, "person(0, 0)", b -> b.person(0, 0));
        refused(x, UNKNOWN, "as(0, 0)", b -> b.as(0, 0));
        refused(x, UNKNOWN, "cross(0)", b -> b.cross(0));
        refused(x, UNKNOWN, "change(0, 0, 0)", b -> b.change(0, 0, 0));
        refused(x, UNKNOWN, "see(0, 0, true)", b -> b.see(0, 0, true));
    }

    @Says("At first there is none")
    private static void p01NoMatterIsKnown() {
        OddBank x = new OddBank();
        refused(x, UNKNOWN, "matter(0, 0)", b -> b.matter(0, 0));
        refused(x, UNKNOWN, "say(0)", b -> b.say(0));
        refused(x, UNKNOWN, "open(0, 1)", b -> b.open(0, 1));
        refused(x, UNKNOWN, "fog(0, 1, 0, 0)", b -> b.fog(0, 1, 0, 0));
    }

    @Says("No RIVER.")
    private static void p01WhatNeedsARiverIsRefused() {
        OddBank x = new OddBank();
        refused(x, STATE, "river()", b -> b.river());
        refused(x, STATE, "date(0, 0)", b -> b.date(0, 0));
        refused(x, STATE, "day()", b -> b.day());
        refused(x, STATE, "best(1, 0)", b -> b.best(1, 0));
        refused(x, STATE, "live(0)", b -> b.live(0));
        refused(x, STATE, "years(1, 0, 0)", b -> b.years(1, 0, 0));
        refused(x, STATE, "image()", b -> b.image());
        refused(x, STATE, "restore()", b -> b.restore());
    }

    @Says("No RIVER.")
    private static void p01WhatNeedsNoRiverIsEmpty() {
        OddBank x = new OddBank();
        due("blank()", x.blank(), 0);
        due("fault()", x.fault(), 0);
        due("forget()", x.forget(), 0);
        due("letter(1)", x.letter(1), 1);
    }

    @Says("No RIVER.")
    private static void p01AnotherObjectHasItsOwn() {
        OddBank first = river(PAIR);
        first.say(0);
        first.letter('p');
        OddBank second = new OddBank();
        due("count(0) of another", second.count(0), 0);
        due("count(9) of another", second.count(9), 0);
        due("count(10) of another", second.count(10), 0);
        due("count(5) of the first", first.count(5), 1);
    }

    // ---- promise 2: letter

    @Says("OUTSIDE: code (1 to 126)")
    private static void p02CodeTooSmall() {
        OddBank x = page("pl");
        for (int code : new int[] {0, -1, -112, MIN, MIN + 1}) {
            refused(x, OUTSIDE, "letter(" + code + ")", b -> b.letter(code));
        }
    }

    @Says("OUTSIDE: code (1 to 126)")
    private static void p02CodeTooLarge() {
        OddBank x = page("pl");
        for (int code : new int[] {127, 128, 256 + 'p', 65536 + 'p', MAX}) {
            refused(x, OUTSIDE, "letter(" + code + ")", b -> b.letter(code));
        }
    }

    @Says("OUTSIDE: code (1 to 126)")
    private static void p02EveryCodeBetweenIsTaken() {
        OddBank x = new OddBank();
        for (int code = 1; code <= 126; code++) {
            due("letter(" + code + ")", x.letter(code), 1);
            x.blank();
        }
    }

    @Says("how many THE PAGE has")
    private static void p02EachTellsHowMany() {
        OddBank x = new OddBank();
        for (int i = 1; i <= 44; i++) {
            due("letter no. " + i, x.letter(i), i);
        }
    }

    @Says("FULL: above 44")
    private static void p02TheFortyFifthIsRefused() {
        OddBank x = page(repeat("p", 43, ""));
        due("letter no. 44", x.letter(126), 44);
        refused(x, FULL, "letter no. 45", b -> b.letter(1));
        refused(x, FULL, "letter no. 45, again", b -> b.letter(126));
        due("count(9)", x.count(9), 44);
    }

    @Says("A letter comes behind THE PAGE")
    private static void p02ALetterComesBehindTheOthers() {
        OddBank x = page("pl0,pl0;01");
        due("fault()", x.fault(), 10);
        x.letter('0');
        due("fault() with a wrong letter behind", x.fault(), 10);
        x.letter('9');
        due("fault() with a right one behind that", x.fault(), 10);
    }

    @Says("OUTSIDE: code (1 to 126); FULL: above 44.")
    private static void p02OutsideAheadOfFull() {
        OddBank x = page(repeat("p", 44, ""));
        refused(x, OUTSIDE, "letter(0)", b -> b.letter(0));
        refused(x, OUTSIDE, "letter(127)", b -> b.letter(127));
    }

    @Says("FULL: above 44")
    private static void p02AnEmptiedPageIsNotFull() {
        OddBank x = page(repeat("p", 44, ""));
        x.blank();
        due("letter", x.letter('p'), 1);
        OddBank y = river(WHOLE);
        due("letter behind river()", y.letter('p'), 1);
    }

    // ---- promise 3: blank

    @Says("how many letters it had")
    private static void p03OfAnEmptyPage() {
        OddBank x = new OddBank();
        due("blank()", x.blank(), 0);
        due("blank() again", x.blank(), 0);
    }

    @Says("how many letters it had")
    private static void p03OfAFullPage() {
        OddBank x = page(repeat("p", 44, ""));
        x.letter('p');
        due("blank()", x.blank(), 44);
    }

    @Says("THE PAGE is empty")
    private static void p03NothingIsLeft() {
        OddBank x = page(PAIR);
        due("blank()", x.blank(), 11);
        due("count(9)", x.count(9), 0);
        due("fault()", x.fault(), 0);
        due("river()", x.river(), STATE);
        write(x, "x");
        due("the new letter is the first", x.fault(), 0);
    }

    @Says("THE PAGE is empty")
    private static void p03WhatWasOnItIsNotRead() {
        for (int length = 1; length < PAIR.length(); length++) {
            OddBank x = page(PAIR);
            x.blank();
            write(x, PAIR.substring(0, length));
            due("fault() of " + length, x.fault(), length);
            refused(x, STATE, "river() of " + length, b -> b.river());
        }
    }

    @Says("THE PAGE is empty")
    private static void p03TheRiverStays() {
        OddBank x = riverOn(PAIR, 3);
        long before = x.digest();
        write(x, "pl0");
        due("blank()", x.blank(), 3);
        due("digest()", x.digest(), before);
    }

    // ---- promise 4: fault

    @Says("how many letters it has, if there is none")
    private static void p04OfAnEmptyPage() {
        due("fault()", new OddBank().fault(), 0);
        due("fault() behind river()", river(WHOLE).fault(), 0);
    }

    @Says("how many letters it has, if there is none")
    private static void p04EachBeginningHasNone() {
        for (int length = 1; length <= WHOLE.length(); length++) {
            due("fault() of " + length, page(WHOLE.substring(0, length)).fault(), length);
        }
    }

    @Says("The place (from 0) of the first letter of THE PAGE that no RIVER has there")
    private static void p04TheFirstOfSeveral() {
        due("at 0", page("xxx").fault(), 0);
        due("at 1", page("px,,,").fault(), 1);
        due("behind it all is well", page("pl0,pl0;01x,019").fault(), 10);
    }

    private static void onlyTheseAt(String ahead, String right) {
        for (int code = 1; code <= 126; code++) {
            boolean fits = right.indexOf(code) >= 0;
            due("fault() of " + ahead + " and " + code, page(ahead + (char) code).fault(),
                fits ? ahead.length() + 1 : ahead.length());
        }
    }

    @Says("0 PERSON \"p\", 1 MUTE \"m\", 2 TWIN \"t\", 3 DRUNK \"d\", 4 DEAF \"f\"")
    private static void p04OnlyTheLettersOfKinds() {
        onlyTheseAt("", "pmtdf");
        onlyTheseAt("pl0,", "pmtdf");
        onlyTheseAt("pl0,pl0,pl0,pl0,pl0,", "pmtdf");
    }

    @Says("the BANK where he was BORN (\"l\" left, \"r\" right)")
    private static void p04OnlyTheLettersOfBanks() {
        onlyTheseAt("p", "lr");
        onlyTheseAt("pl0,f", "lr");
    }

    @Says("MEMORY (0 to 9)")
    private static void p04OnlyTheDigitsOfMemory() {
        onlyTheseAt("pl", "0123456789");
        onlyTheseAt("pl0,fr", "0123456789");
    }

    @Says("two to six PEOPLE (numbered from 0) with \",\" between")
    private static void p04OneIsTooFew() {
        onlyTheseAt("pl0", ",");
    }

    @Says("two to six PEOPLE (numbered from 0) with \",\" between")
    private static void p04TwoToFiveMayBeAllOrNot() {
        for (int n = 2; n <= 5; n++) {
            onlyTheseAt(people(n), ",;");
        }
    }

    @Says("two to six PEOPLE (numbered from 0) with \",\" between")
    private static void p04SevenAreTooMany() {
        onlyTheseAt(people(6), ";");
    }

    @Says("who ASKS, who ANSWERS (PEOPLE that there are, unlike)")
    private static void p04WhoAsksIsOneThatThereIs() {
        for (int n = 2; n <= 6; n++) {
            onlyTheseAt(people(n) + ";", "012345".substring(0, n));
            onlyTheseAt(people(n) + ";019,", "012345".substring(0, n));
        }
    }

    @Says("who ASKS, who ANSWERS (PEOPLE that there are, unlike)")
    private static void p04WhoAnswersIsAnotherThatThereIs() {
        for (int n = 2; n <= 6; n++) {
            for (int asks = 0; asks < n; asks++) {
                String others = "012345".substring(0, n).replace("" + asks, "");
                onlyTheseAt(people(n) + ";" + asks, others);
            }
        }
    }

    @Says("its WORTH (1 to 9)")
    private static void p04WorthIsNotZero() {
        onlyTheseAt("pl0,pl0;01", "123456789");
        onlyTheseAt("pl0,pl0;019,10", "123456789");
    }

    @Says("one to five MATTERS (numbered from 0) with \",\" between")
    private static void p04OneToFourMattersMayGoOn() {
        for (int n = 1; n <= 4; n++) {
            onlyTheseAt("pl0,pl0;" + matters(n), ",");
            onlyTheseAt(people(6) + ";" + matters(n), ",");
        }
    }

    @Says("one to five MATTERS (numbered from 0) with \",\" between")
    private static void p04SixMattersAreTooMany() {
        onlyTheseAt("pl0,pl0;" + matters(5), "");
        onlyTheseAt(people(6) + ";" + matters(5), "");
    }

    @Says("The place (from 0)")
    private static void p04OfAFullPage() {
        due("44 letters, the last is too many", page(WHOLE + ",").fault(), 43);
        due("44 letters, the first is wrong", page(repeat("x", 44, "")).fault(), 0);
    }

    @Says("The place (from 0)")
    private static void p04NothingIsChanged() {
        OddBank x = page("pl0x");
        long before = x.digest();
        due("fault()", x.fault(), 3);
        due("digest()", x.digest(), before);
    }

    // ---- promise 5: river

    private static void noRiver(String text) {
        refused(page(text), STATE, "river() of " + text, b -> b.river());
    }

    @Says("STATE: it is none.")
    private static void p05OfAnEmptyPage() {
        noRiver("");
    }

    @Says("STATE: it is none.")
    private static void p05EachBeginningIsNone() {
        for (int length = 1; length < WHOLE.length(); length++) {
            String text = WHOLE.substring(0, length);
            boolean whole = length == 27 || length == 31 || length == 35 || length == 39;
            if (whole) {
                due("river() of " + text, page(text).river(), 6);
            } else {
                noRiver(text);
            }
        }
    }

    @Says("two to six PEOPLE")
    private static void p05TooFewOrTooManyPeople() {
        noRiver(";019");
        noRiver("pl0;019");
        for (int n = 2; n <= 6; n++) {
            due("river() of " + n, page(people(n) + ";019").river(), n);
        }
        noRiver(people(7) + ";019");
    }

    @Says("one to five MATTERS")
    private static void p05TooFewOrTooManyMatters() {
        noRiver("pl0,pl0;");
        noRiver("pl0,pl0");
        for (int n = 1; n <= 5; n++) {
            OddBank x = river("pl0,pl0;" + matters(n));
            due("count(1)", x.count(1), n);
        }
        noRiver("pl0,pl0;" + matters(6));
    }

    @Says("STATE: it is none.")
    private static void p05WrongAtOnePlace() {
        noRiver("xl0,pl0;019");
        noRiver("px0,pl0;019");
        noRiver("plx,pl0;019");
        noRiver("pl0;pl0;019");
        noRiver("pl0,pl0,019");
        noRiver("pl0,pl0;219");
        noRiver("pl0,pl0;029");
        noRiver("pl0,pl0;009");
        noRiver("pl0,pl0;010");
        noRiver("pl0,pl0;019;109");
        noRiver("pl0,pl0;019,");
        noRiver("pl0,pl0;0199");
        noRiver(WHOLE + ",");
    }

    @Says("MEMORY (0 to 9)")
    private static void p05MemoryAtItsEdges() {
        OddBank x = river("pl0,pl9;019");
        due("0", x.person(0, 3), 0);
        due("9", x.person(1, 3), 9);
    }

    @Says("its WORTH (1 to 9)")
    private static void p05WorthAtItsEdges() {
        OddBank x = river("pl0,pl0;011,109");
        due("1", x.matter(0, 2), 1);
        due("9", x.matter(1, 2), 9);
    }

    @Says("THE PAGE is empty then")
    private static void p05ThePageIsEmptyThen() {
        OddBank x = river(PAIR);
        due("count(9)", x.count(9), 0);
        due("river() again", x.river(), STATE);
    }

    @Says("then each one is on the BANK where he was BORN, all MATTERS are OPEN, it is DAY 0")
    private static void p05AsItBegins() {
        OddBank x = river(WHOLE);
        int[] born = {0, 1, 0, 1, 0, 1};
        for (int p = 0; p < 6; p++) {
            due("BORN", x.person(p, 1), born[p]);
            due("the BANK", x.person(p, 2), born[p]);
        }
        for (int m = 0; m < 5; m++) {
            due("it stands", x.matter(m, 3), 0);
        }
        due("the DAY", x.count(2), 0);
    }

    @Says("another one is gone, with all that was")
    private static void p05AnotherOneIsGone() {
        OddBank x = river(WHOLE);
        x.say(0);
        x.say(3);
        x.day();
        x.say(0);
        x.see(0, 0, true);
        x.cross(0);
        x.change(1, 3, 4);
        x.open(4, 1);
        write(x, "mr3,pl0;108");
        due("river()", x.river(), 2);
        // 2 may speak on the 1st, 1 is on the right, it was read twice.
        int[] counts = {2, 1, 0, 2, 1, 0, 0, 0, 0, 0, 2, 0};
        for (int what = 0; what <= 11; what++) {
            due("count(" + what + ")", x.count(what), counts[what]);
        }
        due("person 2 is gone", x.person(2, 0), UNKNOWN);
        due("matter 1 is gone", x.matter(1, 0), UNKNOWN);
        due("KIND of 1", x.person(1, 0), 0);
        due("MEMORY of 1", x.person(1, 3), 0);
        due("nothing is SEEN of 0", x.person(0, 6), 1023);
        due("restore()", x.restore(), STATE);
    }

    @Says("STATE: it is none.")
    private static void p05RefusedTheOldOneStays() {
        OddBank x = settledMutes();
        x.see(1, 5, false);
        x.image();
        write(x, "pl0,pl0;01");
        refused(x, STATE, "river()", b -> b.river());
        due("THE PAGE stays", x.blank(), 10);
        due("for how much", x.count(7), 4);
        due("how often one was read", x.count(10), 1);
        due("the IMAGE stays", x.restore(), 1);
    }

    @Says("Refusals, of several the first as told by each call: UNKNOWN (a number names nothing), OUTSIDE (it is not as told), STATE (as told), FULL; they change nothing.")
    private static void p05ARefusedPageCanBeGoneOnWith() {
        OddBank x = page("pl0,pl0;01");
        due("river()", x.river(), STATE);
        due("letter", x.letter('9'), 11);
        due("river()", x.river(), 2);
    }

    // ---- promise 6: person

    @Says("UNKNOWN; OUTSIDE.")
    private static void p06NobodyOfThatNumber() {
        OddBank pair = river(PAIR);
        for (int who : new int[] {-1, 2, 5, 6, MIN, MAX}) {
            refused(pair, UNKNOWN, "person(" + who + ", 0)", b -> b.person(who, 0));
        }
        OddBank six = river(WHOLE);
        due("the last", six.person(5, 0), 0);
        refused(six, UNKNOWN, "person(6, 0)", b -> b.person(6, 0));
    }

    @Says("UNKNOWN; OUTSIDE.")
    private static void p06NothingOfThatNumber() {
        OddBank x = river(PAIR);
        for (int what : new int[] {-1, 8, MIN, MAX}) {
            refused(x, OUTSIDE, "person(0, " + what + ")", b -> b.person(0, what));
        }
    }

    @Says("Refusals, of several the first as told by each call")
    private static void p06UnknownAheadOfOutside() {
        OddBank x = river(PAIR);
        refused(x, UNKNOWN, "person(2, 8)", b -> b.person(2, 8));
        refused(x, UNKNOWN, "person(-1, -1)", b -> b.person(-1, -1));
    }

    @Says("what = 0 KIND, 1 where he was BORN (0 left, 1 right), 2 on which BANK he is, 3 MEMORY")
    private static void p06FromTheFirstToTheLast() {
        OddBank x = river(WHOLE);
        int[][] told = {{0, 0, 0, 0}, {1, 1, 1, 9}, {2, 0, 0, 5}, {3, 1, 1, 1}, {4, 0, 0, 9}, {0, 1, 1, 0}};
        for (int p = 0; p < 6; p++) {
            for (int what = 0; what < 4; what++) {
                due("person(" + p + ", " + what + ")", x.person(p, what), told[p][what]);
            }
        }
    }

    @Says("On an odd date the left BANK may SPEAK, on an even one the right")
    private static void p06TwoOddDatesRunningAreTheLefts() {
        OddBank x = riverOn(PAIR, 29);
        int[] left = {0, 1, 1, 0, 1};
        for (int i = 0; i < left.length; i++) {
            due("left on DAY " + x.count(2), x.person(0, 4), left[i]);
            due("right on DAY " + x.count(2), x.person(1, 4), 1 - left[i]);
            x.day();
        }
    }

    @Says("on 29 February both")
    private static void p06OnTheLeapDayBoth() {
        OddBank x = riverOn(PAIR, LEAP_DAY - 1);
        int[][] told = {{0, 1}, {1, 1}, {1, 0}, {0, 1}};
        for (int[] row : told) {
            due("left on DAY " + x.count(2), x.person(0, 4), row[0]);
            due("right on DAY " + x.count(2), x.person(1, 4), row[1]);
            x.day();
        }
    }

    @Says("One MAY SPEAK, if the BANK where he is may")
    private static void p06ByTheBankWhereHeIs() {
        OddBank x = river(PAIR);
        x.cross(0);
        x.cross(1);
        due("BORN on the left, now on the right", x.person(0, 4), 0);
        due("BORN on the right, now on the left", x.person(1, 4), 1);
    }

    @Says("a TWIN besides on the first of each month")
    private static void p06ATwinOnTheFirst() {
        OddBank right = river("tr0,pr0;019");
        for (int first : new int[] {0, 31, 59, 90, 120, 151, 181, 212, 243, 273, 304, 334, 365}) {
            due("on the first, in " + first, right.date(first, 3), 1);
        }
        due("on the 2nd both", right.date(1, 3), 3);
        due("on the 3rd none", right.date(2, 3), 0);
        due("on the 31st none", right.date(30, 3), 0);
        OddBank left = river("tl0,pl0;019");
        due("the left on the first", left.date(0, 3), 3);
        due("the left on the 2nd", left.date(1, 3), 0);
    }

    @Says("a DRUNK, if the BANK where he was BORN may (wherever he is)")
    private static void p06ADrunkWhereverHeIs() {
        OddBank x = river("dr0,dl0;019");
        for (int crossings = 0; crossings < 2; crossings++) {
            due("on the 1st", x.date(0, 3), 2);
            due("on the 2nd", x.date(1, 3), 1);
            due("on the 31st", x.date(30, 3), 2);
            due("on the first", x.date(31, 3), 2);
            x.cross(0);
            x.cross(1);
        }
    }

    @Says("one who is MUTE (or DEAF) on every DAY")
    private static void p06TheMuteOnEveryDay() {
        OddBank x = river("ml0,mr0,fl0,fr0;019");
        for (int days = 0; days <= 366; days++) {
            due("in " + days, x.date(days, 3), 15);
        }
    }

    @Says("5 on how many of the next 31 DAYS, today with it")
    private static void p06TodayAndThirtyMore() {
        OddBank x = river("pl0,pr0,tr0,ml0,fr0;019");
        // January: 16 odd dates, 15 even ones.
        int[] january = {16, 15, 16, 31, 31};
        for (int p = 0; p < 5; p++) {
            due("person(" + p + ", 5) in January", x.person(p, 5), january[p]);
        }
        pass(x, 31);
        // 1 February to 3 March: without the 1st the left had 15, and with 4 March the right 16.
        int[] february = {16, 15, 17, 31, 31};
        for (int p = 0; p < 5; p++) {
            due("person(" + p + ", 5) in February", x.person(p, 5), february[p]);
        }
    }

    @Says("5 on how many of the next 31 DAYS, today with it")
    private static void p06TheLeapDayIsOneOfThem() {
        OddBank x = riverOn(PAIR, LEAP_DAY);
        // 29 February, then 15 odd and 15 even dates to 30 March.
        due("left", x.person(0, 5), 16);
        due("right", x.person(1, 5), 16);
    }

    @Says("SORTS he can be of (KIND, and 5 more if BORN on the right)")
    private static void p06AllSortsIfNothingIsSeen() {
        OddBank x = river(WHOLE);
        for (int p = 0; p < 6; p++) {
            due("SORTS of " + p, x.person(p, 6), 1023);
        }
    }

    @Says("of whom it is not known of which KIND he is, nor where he was BORN")
    private static void p06SortsDoNotTellWhatHeIs() {
        OddBank x = river(KINDS);
        for (int p = 0; p < 5; p++) {
            x.see(p, 2, true);
        }
        // On the 3rd SPEAK all on the left but a DRUNK from the right.
        due("on the left", x.person(0, 6), bits(0, 1, 2, 3, 4, 5, 6, 7, 9));
        due("on the left", x.person(4, 6), bits(0, 1, 2, 3, 4, 5, 6, 7, 9));
        // On the right only the MUTE, the DEAF, and a DRUNK from the left.
        for (int p = 1; p < 4; p++) {
            due("on the right", x.person(p, 6), bits(1, 3, 4, 6, 9));
        }
    }

    @Says("so that all that is SEEN of him is so: as bits")
    private static void p06NoSortIfItCannotBe() {
        OddBank x = river(PAIR);
        x.see(0, 0, true);
        x.see(0, 0, false);
        due("SORTS", x.person(0, 6), 0);
        due("of another", x.person(1, 6), 1023);
    }

    @Says("the BANK where he is as it is")
    private static void p06SortsByTheBankOfNow() {
        OddBank x = river(PAIR);
        x.see(0, 1, false);
        due("on the left", x.person(0, 6), bits(0, 2, 3, 5, 7));
        x.cross(0);
        due("on the right", x.person(0, 6), bits(3));
        x.cross(0);
        due("on the left again", x.person(0, 6), bits(0, 2, 3, 5, 7));
    }

    @Says("none, if there are none")
    private static void p06ListenToNoSort() {
        OddBank x = river(PAIR);
        x.see(1, 3, true);
        x.see(1, 3, false);
        due("LISTEN", x.person(1, 7), NONE);
        x.forget();
        due("LISTEN", x.person(1, 7), 2);
    }

    @Says("of like ones the least")
    private static void p06ListenTodayIfAllDaysAreAlike() {
        OddBank x = river(PAIR);
        x.see(0, 1, false);
        x.cross(0);
        due("one SORT", x.person(0, 6), bits(3));
        due("LISTEN", x.person(0, 7), 0);
    }

    @Says("so that fewest of these are left at worst, by whether he MAY SPEAK")
    private static void p06ListenAtWorst() {
        OddBank x = river(PAIR);
        // On the left: on the 1st are 9 left at worst, on the 2nd 5.
        due("LISTEN on the left", x.person(0, 7), 1);
        // On the right: on the 1st are 7 left at worst, on the 2nd 9, on the 3rd 5.
        due("LISTEN on the right", x.person(1, 7), 2);
    }

    @Says("how many DAYS from now (0 to 31)")
    private static void p06ListenAsLateAsTheNextFirst() {
        OddBank x = riverOn(PAIR, 1);
        // Silent on the 3rd, on the right: PERSON, TWIN, DRUNK from the right; only on a first are they unlike.
        x.see(1, 1, false);
        due("SORTS", x.person(1, 6), bits(0, 2, 5, 7, 8));
        due("LISTEN on the 2nd", x.person(1, 7), 30);
    }

    // ---- promise 7: as

    @Says("UNKNOWN; OUTSIDE.")
    private static void p07NobodyOfThatNumber() {
        OddBank x = river(PAIR);
        for (int who : new int[] {-1, 2, 6, MIN, MAX}) {
            refused(x, UNKNOWN, "as(" + who + ", 0)", b -> b.as(who, 0));
        }
        due("the last", river(WHOLE).as(5, 0), 5);
        due("behind the last", river(WHOLE).as(6, 0), UNKNOWN);
    }

    @Says("UNKNOWN; OUTSIDE.")
    private static void p07NoKindOfThatNumber() {
        OddBank x = river(PAIR);
        for (int kind : new int[] {-1, 5, MIN, MAX}) {
            refused(x, OUTSIDE, "as(0, " + kind + ")", b -> b.as(0, kind));
        }
    }

    @Says("Refusals, of several the first as told by each call")
    private static void p07UnknownAheadOfOutside() {
        OddBank x = river(PAIR);
        refused(x, UNKNOWN, "as(2, 5)", b -> b.as(2, 5));
        refused(x, UNKNOWN, "as(-1, -1)", b -> b.as(-1, -1));
    }

    @Says("of KIND 0 each is one")
    private static void p07EachIsAPerson() {
        OddBank x = river(KINDS);
        for (int p = 0; p < 5; p++) {
            due("as(" + p + ", 0)", x.as(p, 0), p);
        }
    }

    @Says("his own number, not that of the KIND")
    private static void p07HisOwnNumber() {
        OddBank x = river("fl0,pl0,dl0,tl0,ml0;019");
        int[] kinds = {4, 0, 3, 2, 1};
        for (int p = 0; p < 5; p++) {
            due("as(" + p + ", " + kinds[p] + ")", x.as(p, kinds[p]), p);
        }
    }

    @Says("one who is DEAF is MUTE, too")
    private static void p07TheDeafIsMuteButNotTheOtherWay() {
        OddBank x = river("fl0,ml0;019");
        due("DEAF as MUTE", x.as(0, 1), 0);
        due("MUTE as DEAF", x.as(1, 4), NONE);
    }

    @Says("NONE: he is none such (the cast fails)")
    private static void p07NoneSuch() {
        OddBank x = river(KINDS);
        int[][] told = {{0, -1, -1, -1, -1}, {1, 1, -1, -1, -1}, {2, -1, 2, -1, -1}, {3, -1, -1, 3, -1}, {4, 4, -1, -1, 4}};
        for (int p = 0; p < 5; p++) {
            for (int kind = 0; kind < 5; kind++) {
                due("as(" + p + ", " + kind + ")", x.as(p, kind), told[p][kind]);
            }
        }
    }

    // ---- promise 8: matter

    @Says("UNKNOWN; OUTSIDE.")
    private static void p08NoMatterOfThatNumber() {
        OddBank x = river(PAIR);
        for (int m : new int[] {-1, 1, 4, 5, MIN, MAX}) {
            refused(x, UNKNOWN, "matter(" + m + ", 0)", b -> b.matter(m, 0));
        }
        OddBank five = river(WHOLE);
        due("the last", five.matter(4, 2), 8);
        refused(five, UNKNOWN, "matter(5, 2)", b -> b.matter(5, 2));
    }

    @Says("UNKNOWN; OUTSIDE.")
    private static void p08NothingOfThatNumber() {
        OddBank x = river(PAIR);
        for (int what : new int[] {-1, 7, MIN, MAX}) {
            refused(x, OUTSIDE, "matter(0, " + what + ")", b -> b.matter(0, what));
        }
    }

    @Says("Refusals, of several the first as told by each call")
    private static void p08UnknownAheadOfOutside() {
        OddBank x = river(PAIR);
        refused(x, UNKNOWN, "matter(1, 7)", b -> b.matter(1, 7));
        refused(x, UNKNOWN, "matter(-1, -1)", b -> b.matter(-1, -1));
    }

    @Says("what = 0 who ASKS, 1 who ANSWERS, 2 WORTH")
    private static void p08FromTheFirstToTheLast() {
        OddBank x = river(WHOLE);
        int[][] told = {{0, 1, 9}, {1, 2, 5}, {2, 3, 4}, {3, 4, 7}, {4, 5, 8}};
        for (int m = 0; m < 5; m++) {
            for (int what = 0; what < 3; what++) {
                due("matter(" + m + ", " + what + ")", x.matter(m, what), told[m][what]);
            }
        }
    }

    @Says("3 how it stands (0 OPEN, 1 ASKED, 2 SETTLED)")
    private static void p08HowItStands() {
        OddBank x = river(MUTES);
        due("OPEN", x.matter(0, 3), 0);
        x.say(0);
        due("ASKED", x.matter(0, 3), 1);
        x.day();
        due("ASKED still", x.matter(0, 3), 1);
        x.say(0);
        due("SETTLED", x.matter(0, 3), 2);
    }

    @Says("4 since how many DAYS it is ASKED (NONE: it is not)")
    private static void p08SinceWhenItIsAsked() {
        OddBank x = river(MUTES);
        due("OPEN", x.matter(0, 4), NONE);
        x.day();
        x.say(0);
        due("today", x.matter(0, 4), 0);
        pass(x, 40);
        due("40 DAYS", x.matter(0, 4), 40);
        x.say(0);
        due("SETTLED", x.matter(0, 4), NONE);
        x.open(0, 9);
        due("OPEN again", x.matter(0, 4), NONE);
    }

    @Says("5 for how much it would be SETTLED today (NONE: it cannot be)")
    private static void p08ItCannotBeSettledToday() {
        OddBank x = river("ml0,pr0;019");
        due("OPEN", x.matter(0, 5), NONE);
        x.say(0);
        due("ASKED today", x.matter(0, 5), NONE);
        x.day();
        due("it can be", x.matter(0, 5), 8);
        x.day();
        due("who ANSWERS may not SPEAK", x.matter(0, 5), NONE);
        x.day();
        x.say(0);
        due("SETTLED", x.matter(0, 5), NONE);
    }

    @Says("5 for how much it would be SETTLED today (NONE: it cannot be)")
    private static void p08ZeroIsNotNone() {
        OddBank x = river("pl0,pr0;011");
        x.say(0);
        x.day();
        due("for nothing, but it can be", x.matter(0, 5), 0);
    }

    @Says("It can be ANSWERED on a later DAY")
    private static void p08NotOnTheDayOnWhichItIsAsked() {
        OddBank x = river(MUTES);
        x.say(0);
        due("today", x.matter(0, 5), NONE);
        x.day();
        due("tomorrow", x.matter(0, 5), 4);
    }

    @Says("less 1 for each DAY since it was ASKED beyond as many as the MEMORY of who ASKS")
    private static void p08JustAsLongAsHeRemembers() {
        OddBank x = river("pl2,pl7;019");
        x.say(0);
        pass(x, 2);
        due("2 DAYS, MEMORY 2", x.matter(0, 5), 9);
        x.change(0, 0, 1);
        due("2 DAYS, MEMORY 1", x.matter(0, 5), 8);
        x.change(0, 0, 0);
        due("2 DAYS, MEMORY 0", x.matter(0, 5), 7);
        x.change(0, 0, 3);
        due("2 DAYS, MEMORY 3: no more than its WORTH", x.matter(0, 5), 9);
    }

    @Says("less 1 for each DAY since it was ASKED beyond as many as the MEMORY of who ASKS (0 at least)")
    private static void p08ForgottenToNothing() {
        OddBank x = river("pl0,pr9;013");
        x.say(0);
        pass(x, 1);
        due("1 DAY", x.matter(0, 5), 2);
        pass(x, 2);
        due("3 DAYS: 0", x.matter(0, 5), 0);
        pass(x, 2);
        due("5 DAYS: not below 0", x.matter(0, 5), 0);
        pass(x, 200);
        x.change(1, 1, 9);
        due("half of nothing", x.matter(0, 5), 0);
    }

    @Says("the MEMORY of who ASKS")
    private static void p08TheLongestMemory() {
        OddBank x = river("pl9,pr0;019");
        x.say(0);
        pass(x, 9);
        due("9 DAYS", x.matter(0, 5), 9);
        pass(x, 2);
        due("11 DAYS", x.matter(0, 5), 7);
    }

    @Says("if one who is DEAF ANSWERS, for 1 less than that (0 at least)")
    private static void p08TheDeafAnswers() {
        OddBank x = river("pl0,fr0;019,011");
        x.say(0);
        x.say(1);
        x.day();
        due("9 less 1, and 1 less", x.matter(0, 5), 7);
        due("0, and not below", x.matter(1, 5), 0);
        pass(x, 20);
        due("long forgotten", x.matter(0, 5), 0);
        OddBank one = river("pl9,fr0;011");
        one.say(0);
        one.day();
        due("1 less 1", one.matter(0, 5), 0);
    }

    @Says("if another one who is MUTE, for half of that, rounded down")
    private static void p08TheMuteAnswers() {
        OddBank x = river("pl9,mr0;019,018,011");
        for (int m = 0; m < 3; m++) {
            x.say(m);
        }
        x.day();
        due("half of 9", x.matter(0, 5), 4);
        due("half of 8", x.matter(1, 5), 4);
        due("half of 1", x.matter(2, 5), 0);
        x.change(0, 0, 0);
        pass(x, 1);
        // What is forgotten goes first: 9 less 2 is 7, 8 less 2 is 6.
        due("half of 7", x.matter(0, 5), 3);
        due("half of 6", x.matter(1, 5), 3);
    }

    @Says("if one who is DEAF ANSWERS")
    private static void p08WhoAsksMayBeMuteForAll() {
        OddBank x = river("fl9,ml9,pr0;029,129");
        x.say(0);
        x.say(1);
        x.day();
        due("the DEAF ASKED", x.matter(0, 5), 9);
        due("the MUTE ASKED", x.matter(1, 5), 9);
    }

    @Says("0: today; on each DAY it is ASKED or ANSWERED, if it can be")
    private static void p08SoonToday() {
        OddBank x = river(MUTES);
        due("OPEN: not today", x.matter(0, 6), 1);
        x.say(0);
        due("ASKED today: not today", x.matter(0, 6), 1);
        x.day();
        due("ASKED yesterday", x.matter(0, 6), 0);
        due("nothing is done by it", x.matter(0, 3), 1);
    }

    @Says("none, if it is SETTLED")
    private static void p08NoSoonIfSettled() {
        due("SOON", settledMutes().matter(0, 6), NONE);
    }

    @Says("SOON for a MATTER: in how few DAYS it can be SETTLED")
    private static void p08SoonOverTheEndOfAMonth() {
        // Right ASKS on 2 February, and right ANSWERS on the 4th.
        due("from 31 January", riverOn("pr0,pr0;019", 30).matter(0, 6), 4);
        // Left ASKS on the 31st, and left ANSWERS on the first.
        due("from 31 January", riverOn("pl0,pl0;019", 30).matter(0, 6), 1);
        // Left ASKS on 1 March, and left ANSWERS on the 3rd.
        due("from 28 February", riverOn("pl0,pl0;019", 58).matter(0, 6), 3);
        due("left to left on the 1st", river("pl0,pl0;019").matter(0, 6), 2);
        due("right to left on the 1st", river("pr0,pl0;019").matter(0, 6), 2);
    }

    @Says("nobody CROSSES")
    private static void p08SoonByTheBanksOfNow() {
        OddBank x = river("pr0,pl0;019");
        due("as they are", x.matter(0, 6), 2);
        x.cross(0);
        x.cross(1);
        due("on the other ones", x.matter(0, 6), 1);
    }

    @Says("on 29 February both")
    private static void p08SoonOverTheLeapDay() {
        // ASKED by the left on the 29th, or by the right; ANSWERED on 1 March, or on the 2nd.
        due("left to left", riverOn("pl0,pl0;019", LEAP_DAY).matter(0, 6), 1);
        due("right to right", riverOn("pr0,pr0;019", LEAP_DAY).matter(0, 6), 2);
        due("right to right from the 28th", riverOn("pr0,pr0;019", LEAP_DAY - 1).matter(0, 6), 1);
    }

    // ---- promise 9: date

    @Says("OUTSIDE: days (0 to 366), what")
    private static void p09DaysTooFewOrTooMany() {
        OddBank x = river(PAIR);
        for (int days : new int[] {-1, 367, MIN, MAX}) {
            refused(x, OUTSIDE, "date(" + days + ", 0)", b -> b.date(days, 0));
        }
        due("date(0, 0)", x.date(0, 0), 1);
        due("date(366, 0)", x.date(366, 0), 2);
    }

    @Says("OUTSIDE: days (0 to 366), what")
    private static void p09NothingOfThatNumber() {
        OddBank x = river(PAIR);
        for (int what : new int[] {-1, 4, MIN, MAX}) {
            refused(x, OUTSIDE, "date(0, " + what + ")", b -> b.date(0, what));
        }
    }

    @Says("STATE: no RIVER")
    private static void p09NoRiver() {
        OddBank x = new OddBank();
        refused(x, STATE, "date(0, 0)", b -> b.date(0, 0));
        refused(x, STATE, "date(366, 3)", b -> b.date(366, 3));
        refused(page(PAIR), STATE, "date(0, 0) ahead of river()", b -> b.date(0, 0));
    }

    @Says("Refusals, of several the first as told by each call")
    private static void p09OutsideAheadOfState() {
        OddBank x = new OddBank();
        refused(x, OUTSIDE, "date(-1, 0)", b -> b.date(-1, 0));
        refused(x, OUTSIDE, "date(367, 0)", b -> b.date(367, 0));
        refused(x, OUTSIDE, "date(0, 4)", b -> b.date(0, 4));
    }

    private static void dueDate(OddBank x, int days, int date, int month, int year) {
        due("date(" + days + ", 0)", x.date(days, 0), date);
        due("date(" + days + ", 1)", x.date(days, 1), month);
        due("date(" + days + ", 2)", x.date(days, 2), year);
    }

    @Says("DAY 0 is 1 January of YEAR 0")
    private static void p09DayZero() {
        dueDate(river(PAIR), 0, 1, 1, 0);
    }

    @Says("months have 31, 28, 31, 30, 31, 30, 31, 31, 30, 31, 30, 31 days")
    private static void p09EachMonthBeginsAndEnds() {
        OddBank x = river(PAIR);
        int[] lengths = {31, 28, 31, 30, 31, 30, 31, 31, 30, 31, 30, 31};
        int first = 0;
        for (int month = 1; month <= 12; month++) {
            int length = lengths[month - 1];
            dueDate(x, first, 1, month, 0);
            dueDate(x, first + length - 1, length, month, 0);
            first += length;
        }
    }

    @Says("DAY 0 is 1 January of YEAR 0")
    private static void p09AYearGoesOverIntoTheNext() {
        OddBank x = river(PAIR);
        dueDate(x, 364, 31, 12, 0);
        dueDate(x, 365, 1, 1, 1);
        dueDate(x, 366, 2, 1, 1);
        pass(x, 400);
        dueDate(x, 0, 5, 2, 1);
        dueDate(x, 329, 31, 12, 1);
        dueDate(x, 330, 1, 1, 2);
    }

    @Says("February 29 in each YEAR that leaves 3 by 4")
    private static void p09YearsWithoutALeapDay() {
        OddBank x = river(PAIR);
        dueDate(x, 58, 28, 2, 0);
        dueDate(x, 59, 1, 3, 0);
        pass(x, 423);
        dueDate(x, 0, 28, 2, 1);
        dueDate(x, 1, 1, 3, 1);
        dueDate(x, 365, 28, 2, 2);
        dueDate(x, 366, 1, 3, 2);
    }

    // More calls than are promised lead there, but the calendar tells of it.
    @Says("February 29 in each YEAR that leaves 3 by 4")
    private static void p09TheLeapDay() {
        OddBank x = riverOn(PAIR, 1094);
        dueDate(x, 0, 31, 12, 2);
        dueDate(x, 1, 1, 1, 3);
        dueDate(x, LEAP_DAY - 1095, 28, 2, 3);
        dueDate(x, LEAP_DAY - 1094, 29, 2, 3);
        dueDate(x, LEAP_DAY - 1093, 1, 3, 3);
        dueDate(x, 366, 31, 12, 3);
        due("who may then", x.date(LEAP_DAY - 1094, 3), 3);
    }

    @Says("February 29 in each YEAR that leaves 3 by 4")
    private static void p09BeyondTheLastDay() {
        OddBank x = riverOn(PAIR, 1460);
        dueDate(x, 0, 31, 12, 3);
        dueDate(x, 1, 1, 1, 4);
        dueDate(x, 59, 28, 2, 4);
        dueDate(x, 60, 1, 3, 4);
        dueDate(x, 366, 1, 1, 5);
    }

    @Says("3 who MAY SPEAK then, as bits")
    private static void p09NobodyAndAll() {
        OddBank none = river("pr0,pr0,pr0,pr0,pr0,pr0;019");
        due("nobody", none.date(0, 3), 0);
        due("all six", none.date(1, 3), 63);
        due("the last alone", river("pr0,pr0,pr0,pr0,pr0,pl0;019").date(0, 3), 32);
    }

    // ---- promise 10: say

    @Says("UNKNOWN; STATE: it cannot be now")
    private static void p10NoMatterOfThatNumber() {
        OddBank x = river(PAIR);
        for (int m : new int[] {-1, 1, 5, MIN, MAX}) {
            refused(x, UNKNOWN, "say(" + m + ")", b -> b.say(m));
        }
        OddBank five = river(WHOLE);
        due("the last", five.say(4), NONE);
        refused(five, UNKNOWN, "say(5)", b -> b.say(5));
    }

    @Says("A MATTER that is OPEN can be ASKED by who ASKS, if he MAY SPEAK")
    private static void p10WhoAsksMayNotSpeak() {
        OddBank x = river("pr0,pl0;019");
        refused(x, STATE, "say(0)", b -> b.say(0));
        x.day();
        due("say(0) on the 2nd", x.say(0), NONE);
    }

    @Says("It can be ANSWERED on a later DAY")
    private static void p10NotAnsweredOnTheSameDay() {
        OddBank x = river(MUTES);
        due("say(0)", x.say(0), NONE);
        refused(x, STATE, "say(0) again", b -> b.say(0));
        x.day();
        due("say(0) tomorrow", x.say(0), 4);
    }

    @Says("if who ANSWERS MAY SPEAK")
    private static void p10WhoAnswersMayNotSpeak() {
        OddBank x = river("ml9,pl0;019");
        x.say(0);
        x.day();
        refused(x, STATE, "say(0) on the 2nd", b -> b.say(0));
        due("it is ASKED still", x.matter(0, 4), 1);
        x.day();
        due("say(0) on the 3rd", x.say(0), 9);
    }

    @Says("STATE: it cannot be now")
    private static void p10SettledIsSettled() {
        OddBank x = settledMutes();
        refused(x, STATE, "say(0)", b -> b.say(0));
        x.day();
        refused(x, STATE, "say(0) later", b -> b.say(0));
        due("for how much", x.count(7), 4);
    }

    @Says("for how much it is SETTLED (NONE: it is ASKED)")
    private static void p10SettledForNothing() {
        OddBank x = river("pl0,pr0;011");
        due("ASKED", x.say(0), NONE);
        x.day();
        due("for 0", x.say(0), 0);
        due("it is SETTLED", x.matter(0, 3), 2);
        due("count(6)", x.count(6), 1);
        due("count(7)", x.count(7), 0);
    }

    @Says("it is ASKED then, on that DAY")
    private static void p10WhoAskedNeedNotSpeakAgain() {
        OddBank x = river(PAIR);
        x.say(0);
        x.day();
        due("who ASKED may not SPEAK", x.person(0, 4), 0);
        due("it is ANSWERED", x.say(0), 8);
    }

    @Says("on 29 February both")
    private static void p10AskedAndAskedOnTheLeapDay() {
        OddBank x = riverOn("pl9,pr9;019,109", LEAP_DAY);
        due("the left ASKS", x.say(0), NONE);
        due("the right ASKS", x.say(1), NONE);
        refused(x, STATE, "say(0) on the same DAY", b -> b.say(0));
        x.day();
        due("the left ANSWERS on 1 March", x.say(1), 9);
        refused(x, STATE, "say(0) on 1 March", b -> b.say(0));
    }

    // ---- promise 11: day

    @Says("STATE: no RIVER; FULL: it would be DAY 1461.")
    private static void p11NoRiver() {
        refused(new OddBank(), STATE, "day()", b -> b.day());
        refused(page(PAIR), STATE, "day() ahead of river()", b -> b.day());
    }

    @Says("It is the next DAY: which.")
    private static void p11EachDayWithinThe512Calls() {
        OddBank x = new OddBank();
        write(x, PAIR);
        x.river();
        for (int day = 1; day <= 500; day++) {
            due("day()", x.day(), day);
        }
    }

    @Says("FULL: it would be DAY 1461")
    private static void p11NoDayBehindTheLast() {
        OddBank x = riverOn(PAIR, 1459);
        due("the last", x.day(), 1460);
        refused(x, FULL, "day()", b -> b.day());
        refused(x, FULL, "day() again", b -> b.day());
        due("count(2)", x.count(2), 1460);
        write(x, PAIR);
        x.river();
        due("of another RIVER", x.day(), 1);
    }

    // ---- promise 12: cross

    @Says("UNKNOWN.")
    private static void p12NobodyOfThatNumber() {
        OddBank x = river(PAIR);
        for (int who : new int[] {-1, 2, 6, 32, 33, MIN, MAX}) {
            refused(x, UNKNOWN, "cross(" + who + ")", b -> b.cross(who));
        }
        OddBank six = river(WHOLE);
        due("the last", six.cross(5), 0);
        refused(six, UNKNOWN, "cross(6)", b -> b.cross(6));
    }

    @Says("Who CROSSES is on the other BANK")
    private static void p12ThereAndBack() {
        OddBank x = river(WHOLE);
        int[] born = {0, 1, 0, 1, 0, 1};
        for (int p = 0; p < 6; p++) {
            long before = x.digest();
            x.cross(p);
            due("there", x.person(p, 2), 1 - born[p]);
            due("BORN", x.person(p, 1), born[p]);
            x.cross(p);
            due("all is as it was", x.digest(), before);
        }
    }

    @Says("how many MATTERS are OPEN again")
    private static void p12FromNoneToAll() {
        OddBank x = river("ml0,pr0;011,012,013,014,015");
        due("none is ASKED", x.cross(0), 0);
        for (int asked = 1; asked <= 5; asked++) {
            for (int m = 0; m < asked; m++) {
                x.say(m);
            }
            due("so many are ASKED", x.cross(0), asked);
            due("none is any more", x.count(5), 0);
        }
    }

    @Says("all that he ASKED, and is not SETTLED, is OPEN again")
    private static void p12WhatStaysAsItIs() {
        OddBank x = river("ml9,mr9;019,109,019");
        x.say(0);
        x.say(1);
        x.day();
        x.say(0);
        x.say(2);
        due("who ASKED one of each", x.cross(0), 1);
        due("SETTLED stays", x.matter(0, 3), 2);
        due("what he ANSWERS stays", x.matter(1, 3), 1);
        due("since yesterday", x.matter(1, 4), 1);
        due("OPEN again", x.matter(2, 3), 0);
        due("for how much stays", x.count(7), 4);
    }

    @Says("all that he ASKED, and is not SETTLED, is OPEN again")
    private static void p12HeMayAskAgain() {
        OddBank x = river(PAIR);
        x.say(0);
        due("cross(0)", x.cross(0), 1);
        due("not from the right", x.say(0), STATE);
        due("cross(0)", x.cross(0), 0);
        due("from the left", x.say(0), NONE);
    }

    // ---- promise 13: open

    @Says("UNKNOWN; OUTSIDE: worth (1 to 9)")
    private static void p13NoMatterOfThatNumber() {
        OddBank x = river(PAIR);
        for (int m : new int[] {-1, 1, 5, MIN, MAX}) {
            refused(x, UNKNOWN, "open(" + m + ", 5)", b -> b.open(m, 5));
        }
        OddBank five = river(WHOLE);
        due("the last", five.open(4, 5), 0);
        refused(five, UNKNOWN, "open(5, 5)", b -> b.open(5, 5));
    }

    @Says("OUTSIDE: worth (1 to 9)")
    private static void p13WorthTooSmallOrTooLarge() {
        OddBank x = settledMutes();
        for (int worth : new int[] {0, -1, 10, MIN, MAX}) {
            refused(x, OUTSIDE, "open(0, " + worth + ")", b -> b.open(0, worth));
        }
        due("it is SETTLED still", x.matter(0, 3), 2);
    }

    @Says("OUTSIDE: worth (1 to 9)")
    private static void p13WorthAtItsEdges() {
        OddBank x = river(PAIR);
        due("open(0, 1)", x.open(0, 1), 0);
        due("WORTH", x.matter(0, 2), 1);
        due("open(0, 9)", x.open(0, 9), 0);
        due("WORTH", x.matter(0, 2), 9);
    }

    @Says("Refusals, of several the first as told by each call")
    private static void p13UnknownAheadOfOutside() {
        OddBank x = river(PAIR);
        refused(x, UNKNOWN, "open(1, 0)", b -> b.open(1, 0));
        refused(x, UNKNOWN, "open(-1, 10)", b -> b.open(-1, 10));
    }

    @Says("how it stood")
    private static void p13HowItStood() {
        OddBank x = river(MUTES);
        due("OPEN", x.open(0, 3), 0);
        x.say(0);
        due("ASKED", x.open(0, 4), 1);
        due("since", x.matter(0, 4), NONE);
        due("it can be ASKED again today", x.say(0), NONE);
        x.day();
        due("half of 4", x.say(0), 2);
        due("SETTLED", x.open(0, 5), 2);
        due("for how much stays", x.count(7), 2);
        due("none is SETTLED", x.count(6), 0);
    }

    // ---- promise 14: change

    @Says("UNKNOWN; OUTSIDE: kind (0 to 4), memory (0 to 9)")
    private static void p14NobodyOfThatNumber() {
        OddBank x = river(PAIR);
        for (int who : new int[] {-1, 2, 6, MIN, MAX}) {
            refused(x, UNKNOWN, "change(" + who + ", 1, 1)", b -> b.change(who, 1, 1));
        }
        OddBank six = river(WHOLE);
        due("the last", six.change(5, 1, 1), 0);
        refused(six, UNKNOWN, "change(6, 1, 1)", b -> b.change(6, 1, 1));
    }

    @Says("OUTSIDE: kind (0 to 4), memory (0 to 9)")
    private static void p14NoKindOfThatNumber() {
        OddBank x = river(PAIR);
        for (int kind : new int[] {-1, 5, MIN, MAX}) {
            refused(x, OUTSIDE, "change(0, " + kind + ", 7)", b -> b.change(0, kind, 7));
        }
    }

    @Says("OUTSIDE: kind (0 to 4), memory (0 to 9)")
    private static void p14MemoryTooSmallOrTooLarge() {
        OddBank x = river(PAIR);
        for (int memory : new int[] {-1, 10, MIN, MAX}) {
            refused(x, OUTSIDE, "change(0, 2, " + memory + ")", b -> b.change(0, 2, memory));
        }
    }

    @Says("OUTSIDE: kind (0 to 4), memory (0 to 9)")
    private static void p14AtTheEdges() {
        OddBank x = river("dl5,pr0;019");
        due("to 0 and 0", x.change(0, 0, 0), 3);
        due("KIND", x.person(0, 0), 0);
        due("MEMORY", x.person(0, 3), 0);
        due("to 4 and 9", x.change(0, 4, 9), 0);
        due("KIND", x.person(0, 0), 4);
        due("MEMORY", x.person(0, 3), 9);
        due("to the same", x.change(0, 4, 9), 4);
    }

    @Says("Refusals, of several the first as told by each call")
    private static void p14UnknownAheadOfOutside() {
        OddBank x = river(PAIR);
        refused(x, UNKNOWN, "change(2, 5, 0)", b -> b.change(2, 5, 0));
        refused(x, UNKNOWN, "change(-1, 0, 10)", b -> b.change(-1, 0, 10));
    }

    @Says("One is of another KIND, of another MEMORY")
    private static void p14AllElseStays() {
        OddBank x = river(PAIR);
        x.say(0);
        x.cross(1);
        x.change(0, 3, 9);
        x.change(1, 2, 9);
        due("it is ASKED still", x.matter(0, 3), 1);
        due("BORN", x.person(1, 1), 1);
        due("the BANK", x.person(1, 2), 0);
        due("who ASKS is DRUNK", x.as(0, 3), 0);
        due("another is not", x.as(1, 3), NONE);
    }

    // ---- promise 15: best

    private static final String TWO_MUTES = "ml9,mr9;019,109";

    @Says("OUTSIDE: days (1 to 5), what")
    private static void p15DaysTooFewOrTooMany() {
        OddBank x = river(MUTES);
        for (int days : new int[] {0, -1, 6, MIN, MAX}) {
            refused(x, OUTSIDE, "best(" + days + ", 0)", b -> b.best(days, 0));
        }
        due("best(1, 0)", x.best(1, 0), 0);
        due("best(5, 0)", x.best(5, 0), 4);
    }

    @Says("what = 0 for how much, 1 how many, 10 to 14 which MATTER on the so-manieth DAY")
    private static void p15NothingOfThatNumber() {
        OddBank x = river(MUTES);
        for (int what : new int[] {-1, 2, 7, 9, 15, MIN, MAX}) {
            refused(x, OUTSIDE, "best(5, " + what + ")", b -> b.best(5, what));
        }
        int[] told = {4, 1, 0, 0, 7, 7, 7};
        int[] whats = {0, 1, 10, 11, 12, 13, 14};
        for (int i = 0; i < whats.length; i++) {
            due("best(5, " + whats[i] + ")", x.best(5, whats[i]), told[i]);
        }
    }

    @Says("STATE: no RIVER, or best() was done 20 times ever")
    private static void p15NoRiver() {
        refused(new OddBank(), STATE, "best(1, 0)", b -> b.best(1, 0));
        refused(page(PAIR), STATE, "best(5, 14) ahead of river()", b -> b.best(5, 14));
    }

    @Says("OUTSIDE: days (1 to 5), what; STATE: no RIVER")
    private static void p15OutsideAheadOfState() {
        OddBank x = new OddBank();
        refused(x, OUTSIDE, "best(0, 0)", b -> b.best(0, 0));
        refused(x, OUTSIDE, "best(6, 0)", b -> b.best(6, 0));
        refused(x, OUTSIDE, "best(1, 2)", b -> b.best(1, 2));
    }

    @Says("best() was done 20 times ever")
    private static void p15TheTwentyFirstIsRefused() {
        OddBank x = river(MUTES);
        for (int i = 1; i <= 20; i++) {
            due("best(2, 0) no. " + i, x.best(2, 0), 4);
            due("count(11)", x.count(11), i);
        }
        refused(x, STATE, "best(2, 0) no. 21", b -> b.best(2, 0));
        refused(x, STATE, "best(1, 14) no. 21", b -> b.best(1, 14));
        refused(x, OUTSIDE, "best(6, 0) no. 21", b -> b.best(6, 0));
        due("count(11)", x.count(11), 20);
    }

    @Says("refusals do not count, all else does")
    private static void p15RefusalsDoNotCount() {
        OddBank x = new OddBank();
        for (int i = 0; i < 25; i++) {
            x.best(1, 0);
            x.best(6, 0);
        }
        due("count(11)", x.count(11), 0);
        write(x, MUTES);
        x.river();
        for (int i = 0; i < 25; i++) {
            x.best(0, 0);
            x.best(1, 2);
        }
        due("count(11)", x.count(11), 0);
        due("best(2, 0)", x.best(2, 0), 4);
    }

    @Says("refusals do not count, all else does")
    private static void p15NoneCounts() {
        OddBank x = river(MUTES);
        for (int i = 0; i < 20; i++) {
            due("best(1, 14)", x.best(1, 14), NONE);
        }
        due("count(11)", x.count(11), 20);
        due("best(2, 0)", x.best(2, 0), STATE);
    }

    @Says("best() was done 20 times ever")
    private static void p15EverIsOverRiversAndImages() {
        OddBank x = river(MUTES);
        x.image();
        for (int i = 0; i < 19; i++) {
            x.best(1, 0);
        }
        x.restore();
        due("behind restore()", x.count(11), 19);
        write(x, MUTES);
        x.river();
        due("behind river()", x.count(11), 19);
        due("no. 20", x.best(2, 0), 4);
        due("no. 21", x.best(2, 0), STATE);
        x.image();
        x.restore();
        due("no. 21", x.best(2, 0), STATE);
    }

    @Says("(7: nothing; NONE: there are not so many)")
    private static void p15ThereAreNotSoManyDays() {
        OddBank x = river(TWO_MUTES);
        int[][] plans = {{0}, {0, 0}, {0, 0, 1}, {0, 0, 1, 1}, {0, 0, 1, 1, 7}};
        for (int days = 1; days <= 5; days++) {
            if (days == 4) {
                x = river(TWO_MUTES);
            }
            for (int i = 0; i < 5; i++) {
                due("best(" + days + ", " + (10 + i) + ")", x.best(days, 10 + i), i < days ? plans[days - 1][i] : NONE);
            }
        }
    }

    @Says("(7: nothing is done)")
    private static void p15NothingCanBeDone() {
        OddBank x = river("pr0,pl0;019");
        due("for how much", x.best(1, 0), 0);
        due("how many", x.best(1, 1), 0);
        due("on the 1st", x.best(1, 10), 7);
        OddBank all = settledMutes();
        due("all is SETTLED: for how much", all.best(5, 0), 0);
        due("all is SETTLED: how many", all.best(5, 1), 0);
        for (int i = 0; i < 5; i++) {
            due("all is SETTLED: DAY " + i, all.best(5, 10 + i), 7);
        }
    }

    @Says("on each one thing is done at most")
    private static void p15OneThingADay() {
        OddBank x = river("ml9,mr9;019,019,019,019,019");
        int[] worth = {0, 4, 4, 8, 8};
        int[] many = {0, 1, 1, 2, 2};
        for (int days = 1; days <= 5; days++) {
            due("best(" + days + ", 0)", x.best(days, 0), worth[days - 1]);
            due("best(" + days + ", 1)", x.best(days, 1), many[days - 1]);
        }
    }

    @Says("so that most is SETTLED for together; of these so that most are SETTLED")
    private static void p15ForMostAheadOfMost() {
        OddBank x = river("ml9,mr9;012,012,019");
        x.say(0);
        x.say(1);
        x.day();
        // 0 and 1 can be ANSWERED, for 1 each; or 2 ASKED and ANSWERED, for 4.
        due("for how much", x.best(2, 0), 4);
        due("how many", x.best(2, 1), 1);
        due("today", x.best(2, 10), 2);
        due("tomorrow", x.best(2, 11), 2);
    }

    @Says("of these so that most are SETTLED; then so that most are ASKED in the end")
    private static void p15MostSettledAheadOfMostAsked() {
        // On the 2nd the left cannot ANSWER 0; the MUTE can ANSWER 1, for half of 1.
        OddBank x = river("ml9,pl9,mr9;015,021");
        due("for how much", x.best(2, 0), 0);
        due("how many", x.best(2, 1), 1);
        due("on the 1st", x.best(2, 10), 1);
        due("on the 2nd", x.best(2, 11), 1);
    }

    @Says("then so that most are ASKED in the end")
    private static void p15MostAskedAheadOfTheFirst() {
        // On the 2nd only the MUTE can ASK, so that 1 is ASKED on the 1st.
        OddBank x = river("ml9,pl9,pl9;015,125");
        due("on the 1st", x.best(2, 10), 1);
        due("on the 2nd", x.best(2, 11), 0);
    }

    @Says("of like ones the first by numbers")
    private static void p15TheFirstByNumbers() {
        OddBank x = river("ml0,mr0;011,101,011");
        int[] plan = {0, 0, 1, 1, 2};
        for (int i = 0; i < 5; i++) {
            due("best(5, " + (10 + i) + ")", x.best(5, 10 + i), plan[i]);
        }
        OddBank y = river("pr9,pl9;019");
        // Nothing can be done on the 1st, so that 7 stands ahead of 0.
        due("on the 1st", y.best(3, 10), 7);
        due("on the 2nd", y.best(3, 11), 0);
        due("on the 3rd", y.best(3, 12), 0);
    }

    @Says("then so that most are ASKED in the end")
    private static void p15AskedOnDayZeroIsAsked() {
        OddBank x = river("ml9,mr9;019,019");
        x.say(1);
        x.day();
        x.say(0);
        x.day();
        // Either can be ANSWERED for 4, and the other is ASKED in the end.
        due("today", x.best(1, 10), 0);
    }

    @Says("BEST for so many DAYS (1 to 5), from today on")
    private static void p15FromTodayOnOverTheEndOfAMonth() {
        OddBank x = riverOn("pl9,pl9;019", 30);
        due("the 31st and the first", x.best(2, 0), 9);
        due("how many", x.best(2, 1), 1);
        due("the 31st alone", x.best(1, 0), 0);
    }

    @Says("BEST for so many DAYS (1 to 5), from today on")
    private static void p15OnlyTheCountIsChanged() {
        OddBank x = river(TWO_MUTES);
        x.say(1);
        due("best(5, 1)", x.best(5, 1), 2);
        due("OPEN still", x.matter(0, 3), 0);
        due("ASKED still", x.matter(1, 3), 1);
        due("for how much", x.count(7), 0);
        due("the DAY", x.count(2), 0);
    }

    // ---- promise 16: live

    @Says("OUTSIDE; STATE: no RIVER.")
    private static void p16NothingOfThatNumber() {
        OddBank x = river(PAIR);
        for (int what : new int[] {-1, 2, MIN, MAX}) {
            refused(x, OUTSIDE, "live(" + what + ")", b -> b.live(what));
        }
    }

    @Says("OUTSIDE; STATE: no RIVER.")
    private static void p16NoRiver() {
        OddBank x = new OddBank();
        refused(x, STATE, "live(0)", b -> b.live(0));
        refused(x, STATE, "live(1)", b -> b.live(1));
        refused(x, OUTSIDE, "live(2)", b -> b.live(2));
        refused(x, OUTSIDE, "live(-1)", b -> b.live(-1));
    }

    private static void dueHomes(OddBank x, int many, int right) {
        due("live(0)", x.live(0), many);
        due("live(1)", x.live(1), right);
    }

    @Says("most MATTERS that are OPEN can be SETTLED")
    private static void p16OnlyTheOpenOnes() {
        OddBank x = river(PAIR);
        dueHomes(x, 1, 2);
        x.say(0);
        dueHomes(x, 0, 2);
        x.day();
        dueHomes(x, 0, 2);
        x.say(0);
        dueHomes(x, 0, 2);
        x.open(0, 9);
        // On the 2nd the right ASKS, and the left ANSWERS on the 3rd.
        dueHomes(x, 1, 1);
    }

    @Says("SETTLED within 1 DAY (today, and tomorrow)")
    private static void p16NotWithinTwoDays() {
        // They SPEAK on the 1st and on the 3rd, wherever they are.
        dueHomes(river("dl0,dl0;019"), 0, 0);
        dueHomes(river("dr0,dl0;019"), 0, 1);
        dueHomes(river("dl0,dr0;019"), 1, 2);
    }

    @Says("SETTLED within 1 DAY (today, and tomorrow)")
    private static void p16OverTheEndOfAMonth() {
        OddBank x = riverOn("pl0,pr0;015,105", 30);
        // On the 31st and on the first the left SPEAKS.
        dueHomes(x, 2, 0);
        x.day();
        // On the first, then the 2nd: one of two; he who is 0 on the left, 1 on the right.
        dueHomes(x, 1, 2);
    }

    @Says("of these so that fewest are on another one than now")
    private static void p16AllStayIfNothingIsWonByIt() {
        dueHomes(river("pr0,pl0,pr0,pr0,pr0,pr0;019"), 1, bits(1, 2, 3, 4, 5));
        dueHomes(river("mr0,mr0,pr0;019"), 1, bits(0, 1, 2));
        // A TWIN ASKS on the first from the right, too.
        dueHomes(river("tr0,pr0;019"), 1, 3);
    }

    @Says("of like ones the least")
    private static void p16TheLeastOfLikeOnes() {
        // 0 on the left and 1 on the right, or the other way: one moves.
        dueHomes(river("pl0,pl0;015,105"), 1, 1);
        dueHomes(river("pr0,pr0;015,105"), 1, 1);
    }

    @Says("which of PEOPLE on the right, as bits")
    private static void p16NobodyAndAllOnTheRight() {
        dueHomes(riverOn("pl0,pl0,pl0,pl0,pl0,pl0;019", 30), 1, 0);
        dueHomes(river("mr0,pr0,pr0,pr0,pr0,pr0;019"), 1, 63);
    }

    @Says("so that most MATTERS that are OPEN can be SETTLED")
    private static void p16AllFiveMatters() {
        dueHomes(river("pl0,pl0,pl0,pl0,pl0,pl0;019,029,039,049,059"), 5, 62);
    }

    @Says("he would be there at once, without CROSSING")
    private static void p16NobodyCrosses() {
        OddBank x = river("pl0,pr0,pr0,pl0;019,239");
        x.say(0);
        long before = x.digest();
        due("live(0)", x.live(0), 1);
        due("live(1)", x.live(1), bits(1, 3));
        due("it is ASKED still", x.matter(0, 3), 1);
        due("digest()", x.digest(), before);
    }

    @Says("on 29 February both")
    private static void p16OnTheLeapDay() {
        // All ASK on the 29th; on 1 March the left ANSWERS.
        dueHomes(riverOn("pl0,pr0;015,105", LEAP_DAY), 2, 0);
        // On the 28th the right ASKS, all ANSWER on the 29th.
        dueHomes(riverOn("pl0,pr0;015,105", LEAP_DAY - 1), 2, 3);
    }

    // ---- promise 17: fog

    @Says("UNKNOWN: matter")
    private static void p17NoMatterOfThatNumber() {
        OddBank x = river(PAIR);
        for (int m : new int[] {-1, 1, 5, MIN, MAX}) {
            refused(x, UNKNOWN, "fog(" + m + ", 1, 0, 0)", b -> b.fog(m, 1, 0, 0));
        }
        OddBank five = river(WHOLE);
        due("the last", five.fog(4, 8, 0, 0), 1);
        refused(five, UNKNOWN, "fog(5, 8, 0, 0)", b -> b.fog(5, 8, 0, 0));
    }

    @Says("OUTSIDE: days (1 to 8), tenths (0 to 10), what")
    private static void p17DaysTooFewOrTooMany() {
        OddBank x = river(MUTES);
        for (int days : new int[] {0, -1, 9, MIN, MAX}) {
            refused(x, OUTSIDE, "fog(0, " + days + ", 0, 0)", b -> b.fog(0, days, 0, 0));
        }
        dueFog(x, 1, 0, 0, 1);
        dueFog(x, 8, 0, 1, 1);
    }

    @Says("OUTSIDE: days (1 to 8), tenths (0 to 10), what")
    private static void p17TenthsTooFewOrTooMany() {
        OddBank x = river(MUTES);
        for (int tenths : new int[] {-1, 11, MIN, MAX}) {
            refused(x, OUTSIDE, "fog(0, 2, " + tenths + ", 0)", b -> b.fog(0, 2, tenths, 0));
        }
        dueFog(x, 2, 0, 1, 1);
        dueFog(x, 2, 10, 0, 1);
    }

    @Says("OUTSIDE: days (1 to 8), tenths (0 to 10), what")
    private static void p17NothingOfThatNumber() {
        OddBank x = river(MUTES);
        for (int what : new int[] {-1, 2, MIN, MAX}) {
            refused(x, OUTSIDE, "fog(0, 2, 5, " + what + ")", b -> b.fog(0, 2, 5, what));
        }
    }

    @Says("STATE: it is SETTLED")
    private static void p17SettledIsRefused() {
        OddBank x = settledMutes();
        refused(x, STATE, "fog(0, 1, 0, 0)", b -> b.fog(0, 1, 0, 0));
        refused(x, STATE, "fog(0, 8, 10, 1)", b -> b.fog(0, 8, 10, 1));
        x.open(0, 9);
        dueFog(x, 2, 0, 1, 1);
    }

    @Says("UNKNOWN: matter; OUTSIDE: days (1 to 8), tenths (0 to 10), what; STATE: it is SETTLED.")
    private static void p17UnknownThenOutsideThenState() {
        OddBank x = settledMutes();
        refused(x, UNKNOWN, "fog(1, 0, 0, 0)", b -> b.fog(1, 0, 0, 0));
        refused(x, UNKNOWN, "fog(1, 1, 11, 0)", b -> b.fog(1, 1, 11, 0));
        refused(x, UNKNOWN, "fog(-1, 1, 0, 2)", b -> b.fog(-1, 1, 0, 2));
        refused(x, OUTSIDE, "fog(0, 0, 0, 0)", b -> b.fog(0, 0, 0, 0));
        refused(x, OUTSIDE, "fog(0, 9, 0, 0)", b -> b.fog(0, 9, 0, 0));
        refused(x, OUTSIDE, "fog(0, 1, -1, 0)", b -> b.fog(0, 1, -1, 0));
        refused(x, OUTSIDE, "fog(0, 1, 11, 0)", b -> b.fog(0, 1, 11, 0));
        refused(x, OUTSIDE, "fog(0, 1, 0, 2)", b -> b.fog(0, 1, 0, 2));
    }

    private static void dueFog(OddBank x, int days, int tenths, int above, int below) {
        due("fog(0, " + days + ", " + tenths + ", 0)", x.fog(0, days, tenths, 0), above);
        due("fog(0, " + days + ", " + tenths + ", 1)", x.fog(0, days, tenths, 1), below);
    }

    @Says("what = 0 above, 1 below, in lowest terms (0 of 1)")
    private static void p17ZeroOfOne() {
        OddBank x = river(MUTES);
        for (int tenths = 0; tenths <= 10; tenths++) {
            dueFog(x, 1, tenths, 0, 1);
        }
        for (int days = 1; days <= 8; days++) {
            dueFog(x, days, 10, 0, 1);
        }
    }

    @Says("in lowest terms")
    private static void p17InLowestTerms() {
        OddBank x = river(MUTES);
        x.say(0);
        x.day();
        int[][] oneDay = {{1, 1}, {9, 10}, {4, 5}, {7, 10}, {3, 5}, {1, 2}, {2, 5}, {3, 10}, {1, 5}, {1, 10}, {0, 1}};
        for (int tenths = 0; tenths <= 10; tenths++) {
            dueFog(x, 1, tenths, oneDay[tenths][0], oneDay[tenths][1]);
        }
        // 1 less 1 of 2 to the power of 8, and 1 less 1 of 5 to the power of 8.
        dueFog(x, 8, 5, 255, 256);
        dueFog(x, 8, 2, 390624, 390625);
    }

    @Says("in lowest terms")
    private static void p17TheLargestNumbers() {
        OddBank x = river(MUTES);
        // Not none clear, nor just one of 8: 10^8 less 9^8 less 8 times 9^7.
        dueFog(x, 8, 9, 100000000 - 43046721 - 8 * 4782969, 100000000);
        x.say(0);
        x.day();
        dueFog(x, 8, 1, 99999999, 100000000);
        dueFog(x, 8, 0, 1, 1);
    }

    @Says("there is fog with so many tenths of 10, by itself: nothing can be done")
    private static void p17NothingCanBeDoneInFog() {
        OddBank x = river(PAIR);
        dueFog(x, 2, 5, 1, 4);
        dueFog(x, 3, 5, 1, 4);
        // The 1st or the 3rd, and an even date behind it: 3 of 8 and 1 of 8.
        dueFog(x, 4, 5, 1, 2);
    }

    @Says("else it is ASKED or ANSWERED, if it can be")
    private static void p17NotAnsweredOnTheDayOnWhichItIsAsked() {
        OddBank x = river(MUTES);
        dueFog(x, 2, 3, 49, 100);
        x.say(0);
        dueFog(x, 1, 0, 0, 1);
        dueFog(x, 2, 3, 7, 10);
    }

    @Says("on each DAY from today on")
    private static void p17NothingIsDoneByIt() {
        OddBank x = river(MUTES);
        long before = x.digest();
        dueFog(x, 8, 0, 1, 1);
        due("digest()", x.digest(), before);
    }

    // ---- promise 18: see

    @Says("UNKNOWN: person; OUTSIDE: days (0 to 31); FULL.")
    private static void p18NobodyOfThatNumber() {
        OddBank x = river(PAIR);
        for (int who : new int[] {-1, 2, 6, MIN, MAX}) {
            refused(x, UNKNOWN, "see(" + who + ", 0, true)", b -> b.see(who, 0, true));
        }
        OddBank six = river(WHOLE);
        due("the last", six.see(5, 0, true), 1);
        refused(six, UNKNOWN, "see(6, 0, true)", b -> b.see(6, 0, true));
    }

    @Says("OUTSIDE: days (0 to 31)")
    private static void p18DaysTooFewOrTooMany() {
        OddBank x = river(PAIR);
        for (int days : new int[] {-1, 32, MIN, MAX}) {
            refused(x, OUTSIDE, "see(0, " + days + ", false)", b -> b.see(0, days, false));
        }
    }

    @Says("MAY SPEAK so many DAYS (0 to 31)")
    private static void p18DaysAtTheirEdges() {
        OddBank x = river(PAIR);
        // 1 January and 1 February are firsts, 31 January is odd, too, but none.
        due("see(1, 0, true)", x.see(1, 0, true), 1);
        due("SORTS", x.person(1, 6), bits(1, 2, 3, 4, 6, 7, 9));
        x.forget();
        due("see(1, 31, true)", x.see(1, 31, true), 1);
        due("SORTS", x.person(1, 6), bits(1, 2, 3, 4, 6, 7, 9));
        due("see(1, 30, true)", x.see(1, 30, true), 2);
        due("SORTS", x.person(1, 6), bits(1, 3, 4, 6, 9));
    }

    @Says("SEEN (6 at most)")
    private static void p18TheSeventhIsRefused() {
        OddBank x = river(PAIR);
        for (int i = 1; i <= 6; i++) {
            due("see() no. " + i, x.see(0, i, i % 2 == 0), i);
        }
        refused(x, FULL, "see() no. 7", b -> b.see(0, 7, true));
        refused(x, FULL, "see() no. 7 of another", b -> b.see(1, 0, false));
        due("nothing is SEEN of another", x.person(1, 6), 1023);
        due("count(8)", x.count(8), 6);
    }

    @Says("It is SEEN: how much is.")
    private static void p18AllOfThemTogether() {
        OddBank x = river(WHOLE);
        for (int p = 0; p < 6; p++) {
            due("see() of " + p, x.see(p, 0, true), p + 1);
        }
        refused(x, FULL, "see() no. 7", b -> b.see(5, 0, true));
    }

    @Says("UNKNOWN: person; OUTSIDE: days (0 to 31); FULL.")
    private static void p18UnknownThenOutsideThenFull() {
        OddBank x = river(PAIR);
        refused(x, UNKNOWN, "see(2, 32, true)", b -> b.see(2, 32, true));
        for (int i = 0; i < 6; i++) {
            x.see(0, 0, true);
        }
        refused(x, UNKNOWN, "see(2, 32, true)", b -> b.see(2, 32, true));
        refused(x, UNKNOWN, "see(-1, 0, true)", b -> b.see(-1, 0, true));
        refused(x, OUTSIDE, "see(0, 32, true)", b -> b.see(0, 32, true));
        refused(x, OUTSIDE, "see(0, -1, true)", b -> b.see(0, -1, true));
    }

    @Says("from the DAY that it is whenever SORTS or LISTEN are asked (not from that on which it was SEEN), or may not")
    private static void p18FromTheDayThatItIs() {
        OddBank x = river(PAIR);
        x.see(1, 0, false);
        // Silent on the right on 1 January: PERSON, and DRUNK from the right.
        due("SORTS on the 1st", x.person(1, 6), bits(0, 5, 8));
        x.day();
        // On an even date only the DRUNK from the left is.
        due("SORTS on the 2nd", x.person(1, 6), bits(3));
        x.day();
        // On the 3rd the TWIN is, too.
        due("SORTS on the 3rd", x.person(1, 6), bits(0, 2, 5, 7, 8));
        due("LISTEN on the 3rd", x.person(1, 7), 29);
    }

    @Says("from the DAY that it is whenever SORTS or LISTEN are asked")
    private static void p18OnTheLeapDay() {
        OddBank x = riverOn(PAIR, LEAP_DAY);
        x.see(0, 0, true);
        x.see(1, 0, true);
        due("all may, on the left", x.person(0, 6), 1023);
        due("all may, on the right", x.person(1, 6), 1023);
        x.see(0, 0, false);
        due("none may not", x.person(0, 6), 0);
    }

    // ---- promise 19: forget

    @Says("Nothing is SEEN any more: how much was.")
    private static void p19NothingWasSeen() {
        due("no RIVER", new OddBank().forget(), 0);
        OddBank x = river(PAIR);
        due("forget()", x.forget(), 0);
        x.see(0, 0, false);
        x.forget();
        due("forget() again", x.forget(), 0);
    }

    @Says("Nothing is SEEN any more: how much was.")
    private static void p19OfAllThatCanBeSeen() {
        OddBank x = river(PAIR);
        for (int i = 0; i < 7; i++) {
            x.see(i % 2, 1, i % 2 == 0);
        }
        due("forget()", x.forget(), 6);
        due("count(8)", x.count(8), 0);
        due("SORTS of 0", x.person(0, 6), 1023);
        due("SORTS of 1", x.person(1, 6), 1023);
        due("see()", x.see(0, 0, true), 1);
    }

    // ---- promise 20: years

    @Says("OUTSIDE: days (1 to 60), seed (0 at least), what")
    private static void p20DaysTooFewOrTooMany() {
        OddBank x = river(MUTES);
        for (int days : new int[] {0, -1, 61, MIN, MAX}) {
            refused(x, OUTSIDE, "years(" + days + ", 0, 0)", b -> b.years(days, 0, 0));
        }
        due("1 DAY: ASKED", x.years(1, 0, 1), 0);
        due("60 DAYS", x.years(60, 0, 1), 30);
    }

    @Says("OUTSIDE: days (1 to 60), seed (0 at least), what")
    private static void p20SeedTooSmall() {
        OddBank x = river(MUTES);
        for (int seed : new int[] {-1, MIN, MIN + 1}) {
            refused(x, OUTSIDE, "years(1, " + seed + ", 0)", b -> b.years(1, seed, 0));
        }
        due("SEED 0", x.years(1, 0, 2), 12345);
        due("the largest SEED", x.years(1, MAX, 2), 1043980748);
    }

    @Says("OUTSIDE: days (1 to 60), seed (0 at least), what")
    private static void p20NothingOfThatNumber() {
        OddBank x = river(MUTES);
        for (int what : new int[] {-1, 3, MIN, MAX}) {
            refused(x, OUTSIDE, "years(1, 0, " + what + ")", b -> b.years(1, 0, what));
        }
    }

    @Says("STATE: no RIVER")
    private static void p20NoRiver() {
        refused(new OddBank(), STATE, "years(1, 0, 0)", b -> b.years(1, 0, 0));
        refused(page(PAIR), STATE, "years(60, 5, 2) ahead of river()", b -> b.years(60, 5, 2));
    }

    @Says("OUTSIDE: days (1 to 60), seed (0 at least), what; STATE: no RIVER.")
    private static void p20OutsideAheadOfState() {
        OddBank x = new OddBank();
        refused(x, OUTSIDE, "years(0, 0, 0)", b -> b.years(0, 0, 0));
        refused(x, OUTSIDE, "years(61, 0, 0)", b -> b.years(61, 0, 0));
        refused(x, OUTSIDE, "years(1, -1, 0)", b -> b.years(1, -1, 0));
        refused(x, OUTSIDE, "years(1, 0, 3)", b -> b.years(1, 0, 3));
    }

    @Says("1103515245 times it and 12345, its rest by 2 to the 31")
    private static void p20TheSeedGoesRound() {
        OddBank x = river(MUTES);
        BigInteger round = BigInteger.TWO.pow(31);
        for (int first : new int[] {0, 1, 2, 1000000000, MAX - 1, MAX}) {
            BigInteger seed = BigInteger.valueOf(first);
            for (int days = 1; days <= 60; days++) {
                seed = seed.multiply(BigInteger.valueOf(1103515245)).add(BigInteger.valueOf(12345)).mod(round);
                due("years(" + days + ", " + first + ", 2)", x.years(days, first, 2), seed.longValueExact());
            }
        }
    }

    @Says("then that by 65536 (rounded down), its rest")
    private static void p20DrawsOfOneToFive() {
        String five = "019,018,017,016,014";
        // SEED 0 goes on to 12345, 1406932606, 654583775, 1449466924: 0, 21468, 9988, 22117.
        // Of 1: 0 0 0 0, of 2 and 4: 0 0 0 1, of 3: 0 0 1 1, of 5: 0 3 3 2.
        int[] worth = {8, 4, 8, 4, 3};
        int[] many = {2, 1, 2, 1, 1};
        for (int n = 1; n <= 5; n++) {
            OddBank x = river("ml9,mr9;" + five.substring(0, 4 * n - 1));
            due("for how much of " + n, x.years(4, 0, 0), worth[n - 1]);
            due("how many of " + n, x.years(4, 0, 1), many[n - 1]);
        }
    }

    @Says("then that by 65536 (rounded down), its rest")
    private static void p20DrawsWhereTheyGoOver() {
        // Each SEED goes on to so many times 65536, and to 65535 more than that.
        int[][] rows = {{0, 2088216195, 2032319262}, {1, 1742513795, 1686616862}, {2, 1396811395, 1340914462},
            {16384, 1014474371, 958577438}, {16385, 668771971, 612875038}, {32767, 286434947, 230538014}};
        OddBank x = river(TWO_MUTES);
        x.say(0);
        x.day();
        for (int[] row : rows) {
            // If 0 is drawn, it is ANSWERED; 1 can only be ASKED.
            for (int i = 1; i <= 2; i++) {
                due("the SEED behind " + row[i], x.years(1, row[i], 2), 65536L * row[0] + (i == 1 ? 0 : 65535));
                due("how many by " + row[i], x.years(1, row[i], 1), 1 - row[0] % 2);
            }
        }
    }

    @Says("if it is SETTLED by that, it is OPEN again at once")
    private static void p20OpenAgainAtOnce() {
        OddBank x = river(MUTES);
        for (int days = 1; days <= 60; days++) {
            due("how many in " + days, x.years(days, 7, 1), days / 2);
            due("for how much in " + days, x.years(days, 7, 0), days / 2 * 4);
        }
    }

    @Says("one that was SETTLED ahead of all this stays so")
    private static void p20SettledAheadStaysSo() {
        OddBank x = settledMutes();
        due("how many", x.years(60, 0, 1), 0);
        due("for how much: not what was", x.years(60, 0, 0), 0);
    }

    @Says("on each a MATTER by a DRAW of how many there are is ASKED or ANSWERED, if it can be")
    private static void p20IfItCanBe() {
        OddBank x = river("pr0,pl0;019");
        // Nothing on the 1st, ASKED on the 2nd, ANSWERED on the 3rd for 8; ASKED on the 4th.
        int[] worth = {0, 0, 8, 8, 16};
        for (int days = 1; days <= 5; days++) {
            due("for how much in " + days, x.years(days, 0, 0), worth[days - 1]);
        }
        OddBank asked = river(MUTES);
        asked.say(0);
        due("ASKED today: not today", asked.years(1, 0, 1), 0);
        asked.day();
        due("ASKED yesterday", asked.years(1, 0, 1), 1);
    }

    @Says("YEARS by a SEED, as they would be")
    private static void p20NothingIsDoneByIt() {
        OddBank x = river(TWO_MUTES);
        x.say(1);
        long before = x.digest();
        x.years(60, 3, 0);
        x.years(60, 3, 0);
        due("digest()", x.digest(), before);
    }

    // ---- promise 21: image

    @Says("STATE: no RIVER.")
    private static void p21NoRiver() {
        OddBank x = new OddBank();
        refused(x, STATE, "image()", b -> b.image());
        due("restore()", x.restore(), STATE);
        refused(page(PAIR), STATE, "image() ahead of river()", b -> b.image());
    }

    @Says("An IMAGE is kept (one; the latest): the DAY.")
    private static void p21TheDay() {
        OddBank x = river(PAIR);
        due("on DAY 0", x.image(), 0);
        x.day();
        due("on DAY 1", x.image(), 1);
    }

    @Says("An IMAGE is kept (one; the latest): the DAY.")
    private static void p21TheLatest() {
        OddBank x = river(PAIR);
        x.image();
        x.say(0);
        x.day();
        x.image();
        x.day();
        due("restore()", x.restore(), 1);
        due("it is ASKED", x.matter(0, 4), 1);
        due("restore() again: there is no older one", x.restore(), 1);
    }

    @Says("An IMAGE is kept")
    private static void p21NothingIsChanged() {
        OddBank x = river(WHOLE);
        long before = x.digest();
        x.image();
        due("digest()", x.digest(), before);
    }

    // ---- promise 22: restore

    @Says("STATE: none was kept, or there is another RIVER since.")
    private static void p22NoneWasKept() {
        refused(new OddBank(), STATE, "restore()", b -> b.restore());
        refused(river(PAIR), STATE, "restore()", b -> b.restore());
    }

    @Says("STATE: none was kept, or there is another RIVER since.")
    private static void p22AnotherRiverSince() {
        OddBank x = river(PAIR);
        x.image();
        write(x, PAIR);
        due("letters do not matter", x.restore(), 0);
        x.river();
        refused(x, STATE, "restore(), though it reads alike", b -> b.restore());
        due("image()", x.image(), 0);
        due("restore()", x.restore(), 0);
    }

    @Says("STATE: none was kept, or there is another RIVER since.")
    private static void p22ARefusedRiverIsNoOther() {
        OddBank x = riverOn(PAIR, 2);
        x.image();
        write(x, "pl0");
        due("river()", x.river(), STATE);
        x.day();
        due("restore()", x.restore(), 2);
    }

    @Says("It goes on from the IMAGE: the DAY.")
    private static void p22AsOftenAsOneLikes() {
        OddBank x = riverOn(PAIR, 2);
        x.say(0);
        x.image();
        long before = x.digest();
        for (int i = 0; i < 5; i++) {
            x.day();
            x.say(0);
            x.cross(0);
            due("restore()", x.restore(), 2);
            due("digest()", x.digest(), before);
        }
    }

    @Says("An IMAGE keeps KINDS, MEMORY")
    private static void p22KeepsKindsAndMemory() {
        OddBank x = river(WHOLE);
        x.image();
        for (int p = 0; p < 6; p++) {
            x.change(p, 2, 3);
        }
        x.restore();
        int[] kinds = {0, 1, 2, 3, 4, 0};
        int[] memory = {0, 9, 5, 1, 9, 0};
        for (int p = 0; p < 6; p++) {
            due("KIND of " + p, x.person(p, 0), kinds[p]);
            due("MEMORY of " + p, x.person(p, 3), memory[p]);
        }
    }

    @Says("An IMAGE keeps KINDS, MEMORY, BANKS")
    private static void p22KeepsBanks() {
        OddBank x = river(WHOLE);
        x.cross(0);
        x.cross(5);
        x.image();
        for (int p = 0; p < 6; p++) {
            x.cross(p);
        }
        x.restore();
        int[] banks = {1, 1, 0, 1, 0, 0};
        int[] born = {0, 1, 0, 1, 0, 1};
        for (int p = 0; p < 6; p++) {
            due("the BANK of " + p, x.person(p, 2), banks[p]);
            due("BORN of " + p, x.person(p, 1), born[p]);
        }
    }

    @Says("An IMAGE keeps KINDS, MEMORY, BANKS, MATTERS, the DAY")
    private static void p22KeepsMattersAndTheDay() {
        OddBank x = river("ml9,mr9;019,018,017,016,015");
        x.say(0);
        x.say(4);
        x.day();
        x.say(0);
        x.image();
        for (int m = 0; m < 5; m++) {
            x.open(m, 1);
            x.say(m);
        }
        x.day();
        x.say(2);
        due("restore()", x.restore(), 1);
        int[] stands = {2, 0, 0, 0, 1};
        int[] since = {NONE, NONE, NONE, NONE, 1};
        for (int m = 0; m < 5; m++) {
            due("WORTH of " + m, x.matter(m, 2), 9 - m);
            due("how it stands", x.matter(m, 3), stands[m]);
            due("since", x.matter(m, 4), since[m]);
        }
        due("the DAY", x.count(2), 1);
    }

    @Says("for how much all was SETTLED, SEEN")
    private static void p22KeepsForHowMuch() {
        OddBank x = settledMutes();
        x.image();
        x.open(0, 9);
        x.say(0);
        x.day();
        x.say(0);
        due("for how much", x.count(7), 8);
        x.restore();
        due("for how much it was", x.count(7), 4);
    }

    @Says("for how much all was SETTLED, SEEN")
    private static void p22KeepsWhatIsSeen() {
        OddBank x = river(PAIR);
        x.see(0, 1, false);
        x.see(1, 31, true);
        x.image();
        x.forget();
        x.see(1, 0, false);
        for (int i = 0; i < 5; i++) {
            x.see(0, 30, false);
        }
        x.restore();
        due("count(8)", x.count(8), 2);
        due("SORTS of 0", x.person(0, 6), bits(0, 2, 3, 5, 7));
        due("SORTS of 1", x.person(1, 6), bits(1, 2, 3, 4, 6, 7, 9));
        due("there is room for more", x.see(0, 0, true), 3);
    }

    @Says("An IMAGE keeps KINDS, MEMORY, BANKS, MATTERS, the DAY, for how much all was SETTLED, SEEN.")
    private static void p22KeepsNothingElse() {
        OddBank x = river(PAIR);
        write(x, "pl0");
        x.image();
        x.best(1, 0);
        write(x, ",");
        x.restore();
        due("letters of THE PAGE", x.count(9), 4);
        due("how often a RIVER was read", x.count(10), 1);
        due("how often best() was done", x.count(11), 1);
        due("what is on THE PAGE", x.fault(), 4);
    }

    // ---- promise 23: count

    @Says("11 how often best() was done. OUTSIDE.")
    private static void p23NothingOfThatNumber() {
        for (OddBank x : new OddBank[] {new OddBank(), river(PAIR)}) {
            for (int what : new int[] {-1, 12, MIN, MAX}) {
                refused(x, OUTSIDE, "count(" + what + ")", b -> b.count(what));
            }
        }
    }

    @Says("0 PEOPLE, 1 MATTERS, 2 the DAY")
    private static void p23FewestAndMost() {
        OddBank few = riverOn("pl0,pl0;019", 1460);
        due("PEOPLE", few.count(0), 2);
        due("MATTERS", few.count(1), 1);
        due("the DAY", few.count(2), 1460);
        OddBank many = river(WHOLE);
        due("PEOPLE", many.count(0), 6);
        due("MATTERS", many.count(1), 5);
        due("the DAY", many.count(2), 0);
    }

    @Says("3 who MAY SPEAK today, 4 who are on the right")
    private static void p23NobodyAndAll() {
        OddBank x = river("pr0,pr0,pr0,pr0,pr0,pr0;019");
        due("SPEAK on the 1st", x.count(3), 0);
        due("on the right", x.count(4), 6);
        for (int p = 0; p < 6; p++) {
            x.cross(p);
        }
        due("SPEAK on the left on the 1st", x.count(3), 6);
        due("on the right", x.count(4), 0);
        due("SPEAK on the leap day", riverOn(PAIR, LEAP_DAY).count(3), 2);
    }

    @Says("5 MATTERS that are ASKED, 6 that are SETTLED, 7 for how much all was SETTLED")
    private static void p23FromNoneToAllFive() {
        OddBank x = river("ml9,pr9;019,019,019,019,019");
        for (int m = 0; m < 5; m++) {
            due("ASKED", x.count(5), m);
            x.say(m);
        }
        due("ASKED", x.count(5), 5);
        x.day();
        for (int m = 0; m < 5; m++) {
            due("SETTLED", x.count(6), m);
            due("for how much", x.count(7), 9 * m);
            x.say(m);
            due("ASKED", x.count(5), 4 - m);
        }
        due("SETTLED", x.count(6), 5);
        due("for how much", x.count(7), 45);
        x.open(0, 1);
        due("SETTLED", x.count(6), 4);
        due("for how much all was", x.count(7), 45);
    }

    @Says("8 what is SEEN, 9 letters of THE PAGE, 10 how often a RIVER was read, 11 how often best() was done")
    private static void p23NothingRefusedIsCounted() {
        OddBank x = river(PAIR);
        for (int i = 0; i < 50; i++) {
            x.see(0, 0, true);
            x.letter('x');
            x.river();
            x.best(1, 0);
        }
        due("SEEN", x.count(8), 6);
        due("letters", x.count(9), 44);
        due("RIVERS", x.count(10), 1);
        due("best()", x.count(11), 20);
        x.blank();
        write(x, PAIR);
        x.river();
        due("RIVERS", x.count(10), 2);
    }

    // ---- promise 24: digest

    /** By what the other calls tell. */
    private static long told(OddBank x, String page) {
        List<Integer> all = new ArrayList<>();
        for (int p = 0; p < x.count(0); p++) {
            for (int what = 0; what <= 7; what++) {
                all.add(x.person(p, what));
            }
        }
        for (int m = 0; m < x.count(1); m++) {
            for (int what = 0; what <= 6; what++) {
                all.add(x.matter(m, what));
            }
        }
        if (x.count(0) > 0) {
            for (int what = 0; what <= 3; what++) {
                all.add(x.date(0, what));
            }
            for (int what = 0; what <= 3; what++) {
                all.add(x.date(40, what));
            }
            all.add(x.live(0));
            all.add(x.live(1));
        }
        for (int i = 0; i < page.length(); i++) {
            all.add((int) page.charAt(i));
        }
        for (int what = 0; what <= 11; what++) {
            all.add(x.count(what));
        }
        return hash(all.stream().mapToInt(Integer::intValue).toArray());
    }

    @Says("with a RIVER (all up to the next semicolon) what date() tells")
    private static void p24WithoutARiver() {
        due("of a new object", new OddBank().digest(), hash(0, 0, 0, 0, 0, 0, 0, 0, 0, 0, 0, 0));
    }

    @Says("letters of THE PAGE; what count() tells for 0 to 11")
    private static void p24LettersOfThePage() {
        due("of 'a' and 'b'", page("ab").digest(), hash('a', 'b', 0, 0, 0, 0, 0, 0, 0, 0, 0, 2, 0, 0));
        due("of 1 and 126", page("\u0001~").digest(), hash(1, 126, 0, 0, 0, 0, 0, 0, 0, 0, 0, 2, 0, 0));
        due("of PAIR", page(PAIR).digest(), told(page(PAIR), PAIR));
        String full = repeat("~", 44, "");
        due("of a full page", page(full).digest(), told(page(full), full));
        OddBank x = page("ab");
        x.blank();
        due("of an emptied page", x.digest(), hash(0, 0, 0, 0, 0, 0, 0, 0, 0, 0, 0, 0));
    }

    @Says("of each one what person() tells for 0 to 7; of each MATTER what matter() tells for 0 to 6")
    private static void p24OfTheSmallestRiver() {
        due("digest()", river("pl0,pr2;019").digest(), hash(
            0, 0, 0, 0, 1, 16, 1023, 1,
            0, 1, 1, 2, 0, 15, 1023, 2,
            0, 1, 9, 0, -1, -1, 1,
            1, 1, 0, 1, 10, 2, 0, 2, 1, 2,
            2, 1, 0, 1, 1, 0, 0, 0, 0, 0, 1, 0));
    }

    @Says("31 times h, and it (as longs, wrapping)")
    private static void p24ItWraps() {
        OddBank x = river(WHOLE);
        due("of the largest RIVER", x.digest(), told(x, ""));
        x.say(0);
        x.see(0, 0, false);
        x.see(0, 0, true);
        due("LISTEN is NONE", x.person(0, 7), NONE);
        write(x, "~~~");
        due("with NONE in it", x.digest(), told(x, "~~~"));
        pass(x, 200);
        x.say(0);
        x.best(3, 0);
        due("later", x.digest(), told(x, "~~~"));
    }

    @Says("h is 1279, then for each of these numbers, in order")
    private static void p24NothingIsChanged() {
        OddBank x = river(WHOLE);
        long first = x.digest();
        due("digest() again", x.digest(), first);
        due("best() was not done by it", x.count(11), 0);
    }

    // ---- all of them

    private static int promiseOf(Method m) {
        return Integer.parseInt(m.getName().substring(1, 3));
    }

    private static List<Method> tests() {
        List<Method> all = new ArrayList<>();
        for (Method m : EdgesTest.class.getDeclaredMethods()) {
            if (Modifier.isStatic(m.getModifiers()) && m.isAnnotationPresent(Says.class)) {
                all.add(m);
            }
        }
        all.sort(Comparator.comparing(Method::getName));
        return all;
    }

    private static String plain(String text) {
        return text.replaceAll("\\s+", " ");
    }

    /** What the document says under a heading, up to the next. */
    private static String under(String doc, String heading) {
        Matcher m = Pattern.compile("(?ms)^## " + heading + "(.*?)(?=^## |\\z)").matcher(doc);
        return m.find() ? plain(m.group(1)) : "";
    }

    /** Each test quotes its promise, or the terms; each refusal of a promise has a test that quotes it. */
    private static void checkQuotes(List<Method> tests, String doc) {
        String terms = under(doc, "What it is") + under(doc, "Terms");
        for (int promise = 1; promise <= 24; promise++) {
            String words = under(doc, "Promise " + promise + ":");
            StringBuilder quoted = new StringBuilder();
            for (Method m : tests) {
                if (promiseOf(m) == promise) {
                    String quote = plain(m.getAnnotation(Says.class).value());
                    test = m.getName();
                    due("its words stand in the document", words.contains(quote) || terms.contains(quote) ? 1 : 0, 1);
                    quoted.append(quote).append('\n');
                }
            }
            test = "promise " + promise;
            due("it has a test", quoted.length() > 0 ? 1 : 0, 1);
            for (String refusal : List.of("UNKNOWN", "OUTSIDE", "STATE", "FULL")) {
                boolean missing = words.contains(refusal) && quoted.indexOf(refusal) < 0;
                due("a test quotes its " + refusal, missing ? 0 : 1, 1);
            }
        }
    }

    public static void main(String[] args) throws IOException, ReflectiveOperationException {
        List<Method> tests = tests();
        for (Method m : tests) {
            test = m.getName();
            m.invoke(null);
        }
        Path doc = Path.of("../shared/DOC.md");
        if (Files.exists(doc)) {
            checkQuotes(tests, Files.readString(doc));
        }
        System.out.println(tests.size() + " tests, " + wrong + " answers are not as due");
        if (wrong != 0) {
            System.exit(1);
        }
    }
}
