import java.math.BigInteger;
import java.time.LocalDate;
import java.util.ArrayList;
import java.util.List;
import java.util.Random;
import java.util.regex.Matcher;
import java.util.regex.Pattern;

/**
 * Plays random runs of calls on OddBank and on a model that was written apart
 * from it, by trying everything out, and compares every answer.
 */
public final class ModelTest {
    private static int wrong;
    private static long calls;
    private static int leaps;

    // ---- the model

    private abstract static class Someone {
        boolean bornRight;
        boolean onRight;
        int memory;

        boolean bankMay(boolean right, LocalDate date) {
            if (date.getMonthValue() == 2 && date.getDayOfMonth() == 29) {
                return true;
            }
            return right == (date.getDayOfMonth() % 2 == 0);
        }

        boolean maySpeak(LocalDate date) {
            return bankMay(onRight, date);
        }

        int answerWorth(int worth) {
            return worth;
        }

        abstract int number();
    }

    private static class Plain extends Someone {
        int number() {
            return 0;
        }
    }

    private static class Mute extends Someone {
        boolean maySpeak(LocalDate date) {
            return true;
        }

        int answerWorth(int worth) {
            return (int) Math.floor(worth / 2.0);
        }

        int number() {
            return 1;
        }
    }

    private static class Twin extends Someone {
        boolean maySpeak(LocalDate date) {
            return date.getDayOfMonth() == 1 || super.maySpeak(date);
        }

        int number() {
            return 2;
        }
    }

    private static class Drunk extends Someone {
        boolean maySpeak(LocalDate date) {
            return bankMay(bornRight, date);
        }

        int number() {
            return 3;
        }
    }

    private static class Deaf extends Mute {
        int answerWorth(int worth) {
            return worth == 0 ? 0 : worth - 1;
        }

        int number() {
            return 4;
        }
    }

    private static Someone ofKind(int kind, boolean bornRight, boolean onRight, int memory) {
        Someone made = switch (kind) {
            case 0 -> new Plain();
            case 1 -> new Mute();
            case 2 -> new Twin();
            case 3 -> new Drunk();
            default -> new Deaf();
        };
        made.bornRight = bornRight;
        made.onRight = onRight;
        made.memory = memory;
        return made;
    }

    private static final class Matter {
        int asks;
        int answers;
        int worth;
        int stands;
        int since;

        Matter copy() {
            Matter other = new Matter();
            other.asks = asks;
            other.answers = answers;
            other.worth = worth;
            other.stands = stands;
            other.since = since;
            return other;
        }
    }

    private record Sight(int who, int days, boolean speaks) {
    }

    private static final class Scene {
        final List<Someone> people = new ArrayList<>();
        final List<Matter> matters = new ArrayList<>();
        final List<Sight> seen = new ArrayList<>();
        int today;
        int total;

        Scene copy() {
            Scene other = new Scene();
            for (Someone s : people) {
                other.people.add(ofKind(s.number(), s.bornRight, s.onRight, s.memory));
            }
            for (Matter m : matters) {
                other.matters.add(m.copy());
            }
            other.seen.addAll(seen);
            other.today = today;
            other.total = total;
            return other;
        }

        LocalDate dateIn(int days) {
            return LocalDate.of(2001, 1, 1).plusDays(today + days);
        }

        boolean speaks(int person, int days) {
            return people.get(person).maySpeak(dateIn(days));
        }

        Integer worthToday(int matter) {
            Matter m = matters.get(matter);
            if (m.stands != 1 || m.since >= today || !speaks(m.answers, 0)) {
                return null;
            }
            int worth = m.worth;
            for (int d = m.since + people.get(m.asks).memory; d < today && worth > 0; d++) {
                worth--;
            }
            return people.get(m.answers).answerWorth(worth);
        }

        /** null: it cannot be; -1: ASKED; else for how much. */
        Integer say(int matter) {
            Matter m = matters.get(matter);
            if (m.stands == 0 && speaks(m.asks, 0)) {
                m.stands = 1;
                m.since = today;
                return -1;
            }
            Integer worth = worthToday(matter);
            if (worth != null) {
                m.stands = 2;
                total += worth;
            }
            return worth;
        }

        int soon(int matter) {
            Scene would = copy();
            if (would.matters.get(matter).stands == 2) {
                return -1;
            }
            for (int days = 0; days <= 70; days++) {
                would.say(matter);
                if (would.matters.get(matter).stands == 2) {
                    return days;
                }
                would.today++;
            }
            throw new IllegalStateException("SOON beyond 70");
        }

        List<Integer> sorts(int person) {
            List<Integer> left = new ArrayList<>();
            for (int sort = 0; sort < 10; sort++) {
                Someone guess = ofKind(sort % 5, sort >= 5, people.get(person).onRight, 0);
                boolean fits = true;
                for (Sight s : seen) {
                    fits &= s.who() != person || guess.maySpeak(dateIn(s.days())) == s.speaks();
                }
                if (fits) {
                    left.add(sort);
                }
            }
            return left;
        }

        int listen(int person) {
            List<Integer> sorts = sorts(person);
            int best = -1;
            int fewest = 1000;
            for (int days = 0; days <= 31 && !sorts.isEmpty(); days++) {
                int yes = 0;
                for (int sort : sorts) {
                    yes += ofKind(sort % 5, sort >= 5, people.get(person).onRight, 0).maySpeak(dateIn(days)) ? 1 : 0;
                }
                int worst = Math.max(yes, sorts.size() - yes);
                if (worst < fewest) {
                    fewest = worst;
                    best = days;
                }
            }
            return best;
        }

        int rightBits() {
            int bits = 0;
            for (int p = 0; p < people.size(); p++) {
                bits |= people.get(p).onRight ? 1 << p : 0;
            }
            return bits;
        }

        int speakers(int days) {
            int bits = 0;
            for (int p = 0; p < people.size(); p++) {
                bits |= speaks(p, days) ? 1 << p : 0;
            }
            return bits;
        }

        int howMany(int stands) {
            int n = 0;
            for (Matter m : matters) {
                n += m.stands == stands ? 1 : 0;
            }
            return n;
        }
    }

    private static final class Model {
        String page = "";
        Scene scene = new Scene();
        Scene image;
        int readings;
        int plans;

        boolean noRiver() {
            return scene.people.isEmpty();
        }

        boolean noPerson(int p) {
            return p < 0 || p >= scene.people.size();
        }

        boolean noMatter(int m) {
            return m < 0 || m >= scene.matters.size();
        }

        static boolean out(int value, int least, int most) {
            return value < least || value > most;
        }

        static Pattern[] rivers() {
            Pattern[] all = new Pattern[5];
            for (int n = 2; n <= 6; n++) {
                StringBuilder pairs = new StringBuilder();
                for (int a = 0; a < n; a++) {
                    for (int b = 0; b < n; b++) {
                        pairs.append(a == b ? "" : "|" + a + b);
                    }
                }
                String matter = "(?:" + pairs.substring(1) + ")[1-9]";
                String person = "[pmtdf][lr][0-9]";
                all[n - 2] = Pattern.compile(
                    person + "(?:," + person + "){" + (n - 1) + "};" + matter + "(?:," + matter + "){0,4}",
                    Pattern.DOTALL);
            }
            return all;
        }

        static final Pattern[] RIVERS = rivers();

        boolean canBegin(String text) {
            for (Pattern p : RIVERS) {
                Matcher m = p.matcher(text);
                if (m.matches() || m.hitEnd()) {
                    return true;
                }
            }
            return false;
        }

        int fault() {
            for (int i = 0; i < page.length(); i++) {
                if (!canBegin(page.substring(0, i + 1))) {
                    return i;
                }
            }
            return page.length();
        }

        int river() {
            boolean whole = false;
            for (Pattern p : RIVERS) {
                whole |= p.matcher(page).matches();
            }
            if (!whole) {
                return -103;
            }
            scene = new Scene();
            image = null;
            readings++;
            String[] halves = page.split(";");
            for (String s : halves[0].split(",")) {
                boolean right = s.charAt(1) == 'r';
                scene.people.add(ofKind("pmtdf".indexOf(s.charAt(0)), right, right, s.charAt(2) - '0'));
            }
            for (String s : halves[1].split(",")) {
                Matter m = new Matter();
                m.asks = s.charAt(0) - '0';
                m.answers = s.charAt(1) - '0';
                m.worth = s.charAt(2) - '0';
                scene.matters.add(m);
            }
            page = "";
            return scene.people.size();
        }

        int person(int person, int what) {
            if (noPerson(person)) {
                return -101;
            }
            if (out(what, 0, 7)) {
                return -102;
            }
            Someone s = scene.people.get(person);
            switch (what) {
                case 0: return s.number();
                case 1: return s.bornRight ? 1 : 0;
                case 2: return s.onRight ? 1 : 0;
                case 3: return s.memory;
                case 4: return scene.speaks(person, 0) ? 1 : 0;
                case 5: {
                    int n = 0;
                    for (int d = 0; d < 31; d++) {
                        n += scene.speaks(person, d) ? 1 : 0;
                    }
                    return n;
                }
                case 6: {
                    int bits = 0;
                    for (int sort : scene.sorts(person)) {
                        bits += 1 << sort;
                    }
                    return bits;
                }
                default: return scene.listen(person);
            }
        }

        int as(int person, int kind) {
            if (noPerson(person)) {
                return -101;
            }
            if (out(kind, 0, 4)) {
                return -102;
            }
            Someone s = scene.people.get(person);
            boolean is = switch (kind) {
                case 0 -> true;
                case 1 -> s instanceof Mute;
                case 2 -> s instanceof Twin;
                case 3 -> s instanceof Drunk;
                default -> s instanceof Deaf;
            };
            return is ? person : -1;
        }

        int matter(int matter, int what) {
            if (noMatter(matter)) {
                return -101;
            }
            if (out(what, 0, 6)) {
                return -102;
            }
            Matter m = scene.matters.get(matter);
            switch (what) {
                case 0: return m.asks;
                case 1: return m.answers;
                case 2: return m.worth;
                case 3: return m.stands;
                case 4: return m.stands == 1 ? scene.today - m.since : -1;
                case 5: {
                    Integer worth = scene.worthToday(matter);
                    return worth == null ? -1 : worth;
                }
                default: return scene.soon(matter);
            }
        }

        int date(int days, int what) {
            if (out(days, 0, 366) || out(what, 0, 3)) {
                return -102;
            }
            if (noRiver()) {
                return -103;
            }
            LocalDate date = scene.dateIn(days);
            switch (what) {
                case 0: return date.getDayOfMonth();
                case 1: return date.getMonthValue();
                case 2: return date.getYear() - 2001;
                default: return scene.speakers(days);
            }
        }

        int say(int matter) {
            if (noMatter(matter)) {
                return -101;
            }
            Integer said = scene.say(matter);
            return said == null ? -103 : said;
        }

        int day() {
            if (noRiver()) {
                return -103;
            }
            return scene.today == 1460 ? -104 : ++scene.today;
        }

        int cross(int person) {
            if (noPerson(person)) {
                return -101;
            }
            scene.people.get(person).onRight ^= true;
            int n = 0;
            for (Matter m : scene.matters) {
                if (m.asks == person && m.stands == 1) {
                    m.stands = 0;
                    n++;
                }
            }
            return n;
        }

        int open(int matter, int worth) {
            if (noMatter(matter)) {
                return -101;
            }
            if (out(worth, 1, 9)) {
                return -102;
            }
            Matter m = scene.matters.get(matter);
            int stood = m.stands;
            m.stands = 0;
            m.worth = worth;
            return stood;
        }

        int change(int person, int kind, int memory) {
            if (noPerson(person)) {
                return -101;
            }
            if (out(kind, 0, 4) || out(memory, 0, 9)) {
                return -102;
            }
            Someone was = scene.people.get(person);
            scene.people.set(person, ofKind(kind, was.bornRight, was.onRight, memory));
            return was.number();
        }

        int best(int days, int what) {
            if (out(days, 1, 5) || out(what, 0, 1) && out(what, 10, 14)) {
                return -102;
            }
            if (noRiver() || plans == 20) {
                return -103;
            }
            plans++;
            int many = scene.matters.size();
            int all = 1;
            for (int i = 0; i < days; i++) {
                all *= many + 1;
            }
            long top = -1;
            int[] found = new int[0];
            int foundWorth = 0;
            int foundSettled = 0;
            for (int code = 0; code < all; code++) {
                int[] plan = new int[days];
                int rest = code;
                for (int i = days - 1; i >= 0; i--) {
                    plan[i] = rest % (many + 1);
                    rest /= many + 1;
                }
                Scene would = scene.copy();
                boolean can = true;
                for (int i = 0; i < days && can; i++) {
                    can = plan[i] == many || would.say(plan[i]) != null;
                    would.today++;
                }
                if (!can) {
                    continue;
                }
                int worth = would.total - scene.total;
                int settled = would.howMany(2) - scene.howMany(2);
                long rank = worth * 10000L + settled * 100L + would.howMany(1);
                if (rank > top) {
                    top = rank;
                    found = plan;
                    foundWorth = worth;
                    foundSettled = settled;
                }
            }
            if (what < 2) {
                return what == 0 ? foundWorth : foundSettled;
            }
            if (what - 10 >= days) {
                return -1;
            }
            return found[what - 10] == many ? 7 : found[what - 10];
        }

        int live(int what) {
            if (out(what, 0, 1)) {
                return -102;
            }
            if (noRiver()) {
                return -103;
            }
            int found = 0;
            int most = -1;
            int fewest = 0;
            for (int right = 0; right < 1 << scene.people.size(); right++) {
                Scene would = scene.copy();
                int moved = 0;
                for (int p = 0; p < would.people.size(); p++) {
                    boolean there = (right >> p) % 2 == 1;
                    moved += would.people.get(p).onRight != there ? 1 : 0;
                    would.people.get(p).onRight = there;
                }
                int n = 0;
                for (int m = 0; m < would.matters.size(); m++) {
                    n += would.matters.get(m).stands == 0 && would.soon(m) <= 1 ? 1 : 0;
                }
                if (n > most || n == most && moved < fewest) {
                    most = n;
                    fewest = moved;
                    found = right;
                }
            }
            return what == 0 ? most : found;
        }

        int fog(int matter, int days, int tenths, int what) {
            if (noMatter(matter)) {
                return -101;
            }
            if (out(days, 1, 8) || out(tenths, 0, 10) || out(what, 0, 1)) {
                return -102;
            }
            if (scene.matters.get(matter).stands == 2) {
                return -103;
            }
            BigInteger above = BigInteger.ZERO;
            for (int fogs = 0; fogs < 1 << days; fogs++) {
                Scene would = scene.copy();
                BigInteger weight = BigInteger.ONE;
                for (int i = 0; i < days; i++) {
                    boolean foggy = (fogs >> i) % 2 == 1;
                    weight = weight.multiply(BigInteger.valueOf(foggy ? tenths : 10 - tenths));
                    if (!foggy && would.matters.get(matter).stands != 2) {
                        would.say(matter);
                    }
                    would.today++;
                }
                if (would.matters.get(matter).stands == 2) {
                    above = above.add(weight);
                }
            }
            BigInteger below = BigInteger.TEN.pow(days);
            BigInteger shared = above.gcd(below);
            return (what == 0 ? above : below).divide(shared).intValueExact();
        }

        int see(int person, int days, boolean speaks) {
            if (noPerson(person)) {
                return -101;
            }
            if (out(days, 0, 31)) {
                return -102;
            }
            if (scene.seen.size() == 6) {
                return -104;
            }
            scene.seen.add(new Sight(person, days, speaks));
            return scene.seen.size();
        }

        int forget() {
            int was = scene.seen.size();
            scene.seen.clear();
            return was;
        }

        int years(int days, int seed, int what) {
            if (out(days, 1, 60) || seed < 0 || out(what, 0, 2)) {
                return -102;
            }
            if (noRiver()) {
                return -103;
            }
            BigInteger now = BigInteger.valueOf(seed);
            Scene would = scene.copy();
            int settled = 0;
            for (int i = 0; i < days; i++) {
                now = now.multiply(BigInteger.valueOf(1103515245)).add(BigInteger.valueOf(12345))
                    .mod(BigInteger.TWO.pow(31));
                int m = now.intValueExact() / 65536 % would.matters.size();
                Integer said = would.say(m);
                if (said != null && said >= 0) {
                    settled++;
                    would.matters.get(m).stands = 0;
                }
                would.today++;
            }
            return what == 0 ? would.total - scene.total : what == 1 ? settled : now.intValueExact();
        }

        int image() {
            if (noRiver()) {
                return -103;
            }
            image = scene.copy();
            return scene.today;
        }

        int restore() {
            if (image == null) {
                return -103;
            }
            scene = image.copy();
            return scene.today;
        }

        int count(int what) {
            switch (what) {
                case 0: return scene.people.size();
                case 1: return scene.matters.size();
                case 2: return scene.today;
                case 3: return Integer.bitCount(scene.speakers(0));
                case 4: return Integer.bitCount(scene.rightBits());
                case 5: return scene.howMany(1);
                case 6: return scene.howMany(2);
                case 7: return scene.total;
                case 8: return scene.seen.size();
                case 9: return page.length();
                case 10: return readings;
                case 11: return plans;
                default: return -102;
            }
        }

        long digest() {
            List<Integer> told = new ArrayList<>();
            for (int p = 0; p < scene.people.size(); p++) {
                for (int w = 0; w < 8; w++) {
                    told.add(person(p, w));
                }
            }
            for (int m = 0; m < scene.matters.size(); m++) {
                for (int w = 0; w < 7; w++) {
                    told.add(matter(m, w));
                }
            }
            if (!noRiver()) {
                for (int days : new int[] {0, 40}) {
                    for (int w = 0; w < 4; w++) {
                        told.add(date(days, w));
                    }
                }
                told.add(live(0));
                told.add(live(1));
            }
            for (char c : page.toCharArray()) {
                told.add((int) c);
            }
            for (int w = 0; w < 12; w++) {
                told.add(count(w));
            }
            long h = 1279;
            for (int n : told) {
                h = 31 * h + n;
            }
            return h;
        }
    }

    // ---- the runs

    private final Random random;
    private final OddBank bank = new OddBank();
    private final Model model = new Model();
    private final List<String> told = new ArrayList<>();

    private ModelTest(long seed) {
        random = new Random(seed);
    }

    private void due(String call, long got, long want) {
        calls++;
        told.add(call + " = " + got);
        if (got != want) {
            wrong++;
            System.out.println("answered " + got + ", due is " + want + ", at the end of:");
            for (String line : told.subList(Math.max(0, told.size() - 60), told.size())) {
                System.out.println("  " + line);
            }
        }
    }

    private void letter(int code) {
        int want;
        if (code < 1 || code > 126) {
            want = -102;
        } else if (model.page.length() == 44) {
            want = -104;
        } else {
            model.page += (char) code;
            want = model.page.length();
        }
        due("letter(" + code + ")", bank.letter(code), want);
    }

    private void blank() {
        int had = model.page.length();
        model.page = "";
        due("blank()", bank.blank(), had);
    }

    private int pick(String from) {
        return from.charAt(random.nextInt(from.length()));
    }

    private String anyRiver() {
        int people = 2 + random.nextInt(5);
        StringBuilder text = new StringBuilder();
        String kinds = random.nextInt(4) == 0 ? "mf" : "pmtdf";
        for (int p = 0; p < people; p++) {
            text.append(p == 0 ? "" : ",").append((char) pick(kinds)).append((char) pick("lr")).append(random.nextInt(10));
        }
        int matters = 1 + random.nextInt(5);
        for (int m = 0; m < matters; m++) {
            int asks = random.nextInt(people);
            int answers = (asks + 1 + random.nextInt(people - 1)) % people;
            text.append(m == 0 ? ";" : ",").append(asks).append(answers).append(1 + random.nextInt(9));
        }
        return text.toString();
    }

    private void readRiver(boolean spoil) {
        String text = anyRiver();
        if (spoil) {
            int at = random.nextInt(text.length());
            int how = random.nextInt(4);
            String other = String.valueOf((char) (random.nextBoolean() ? pick("pmtdflr,;0123456789") : 1 + random.nextInt(126)));
            text = how == 0 ? text.substring(0, at)
                : how == 1 ? text.substring(0, at) + other + text.substring(at + 1)
                : how == 2 ? text + other
                : text.substring(0, at) + text.substring(at + 1);
        }
        for (int i = 0; i < text.length(); i++) {
            letter(text.charAt(i));
        }
        due("fault()", bank.fault(), model.fault());
        due("river()", bank.river(), model.river());
    }

    private int some(int least, int most) {
        int odd = random.nextInt(40);
        if (odd == 0) {
            return least - 1;
        }
        if (odd == 1) {
            return most + 1;
        }
        if (odd == 2) {
            return random.nextBoolean() ? Integer.MIN_VALUE : Integer.MAX_VALUE;
        }
        if (odd == 3) {
            return random.nextInt();
        }
        return least + random.nextInt(most - least + 1);
    }

    private int someone() {
        return some(0, Math.max(0, model.scene.people.size() - 1));
    }

    private int something() {
        return some(0, Math.max(0, model.scene.matters.size() - 1));
    }

    private void step() {
        switch (random.nextInt(26)) {
            case 0: {
                int p = someone();
                int w = some(0, 7);
                due("person(" + p + ", " + w + ")", bank.person(p, w), model.person(p, w));
                break;
            }
            case 1: {
                int p = someone();
                int k = some(0, 4);
                due("as(" + p + ", " + k + ")", bank.as(p, k), model.as(p, k));
                break;
            }
            case 2: case 3: {
                int m = something();
                int w = some(0, 6);
                due("matter(" + m + ", " + w + ")", bank.matter(m, w), model.matter(m, w));
                break;
            }
            case 4: {
                int d = some(0, 366);
                int w = some(0, 3);
                due("date(" + d + ", " + w + ")", bank.date(d, w), model.date(d, w));
                break;
            }
            case 5: case 6: case 7: case 8: case 9: {
                int m = something();
                due("say(" + m + ")", bank.say(m), model.say(m));
                break;
            }
            case 10: case 11: case 12:
                due("day()", bank.day(), model.day());
                break;
            case 13: {
                int p = someone();
                due("cross(" + p + ")", bank.cross(p), model.cross(p));
                break;
            }
            case 14: {
                int m = something();
                int w = some(1, 9);
                due("open(" + m + ", " + w + ")", bank.open(m, w), model.open(m, w));
                break;
            }
            case 15: {
                int p = someone();
                int k = some(0, 4);
                int r = some(0, 9);
                due("change(" + p + ", " + k + ", " + r + ")", bank.change(p, k, r), model.change(p, k, r));
                break;
            }
            case 16: {
                int d = some(1, random.nextInt(4) == 0 ? 5 : 4);
                int w = random.nextInt(3) == 0 ? some(0, 1) : some(10, 14);
                due("best(" + d + ", " + w + ")", bank.best(d, w), model.best(d, w));
                break;
            }
            case 17: {
                int w = some(0, 1);
                due("live(" + w + ")", bank.live(w), model.live(w));
                break;
            }
            case 18: {
                int m = something();
                int d = some(1, 8);
                int t = some(0, 10);
                int w = some(0, 1);
                due("fog(" + m + ", " + d + ", " + t + ", " + w + ")", bank.fog(m, d, t, w), model.fog(m, d, t, w));
                break;
            }
            case 19: {
                int p = someone();
                int d = some(0, 31);
                boolean s = random.nextBoolean();
                due("see(" + p + ", " + d + ", " + s + ")", bank.see(p, d, s), model.see(p, d, s));
                break;
            }
            case 20:
                if (random.nextInt(3) == 0) {
                    due("forget()", bank.forget(), model.forget());
                }
                break;
            case 21: {
                int d = some(1, 60);
                int s = random.nextInt(9) == 0 ? random.nextInt() : random.nextInt(Integer.MAX_VALUE);
                int w = some(0, 2);
                due("years(" + d + ", " + s + ", " + w + ")", bank.years(d, s, w), model.years(d, s, w));
                break;
            }
            case 22:
                due("image()", bank.image(), model.image());
                break;
            case 23:
                due("restore()", bank.restore(), model.restore());
                break;
            case 24: {
                int w = some(0, 11);
                due("count(" + w + ")", bank.count(w), model.count(w));
                break;
            }
            default:
                rare();
                break;
        }
    }

    private void rare() {
        switch (random.nextInt(8)) {
            case 0:
                readRiver(false);
                break;
            case 1:
                readRiver(true);
                break;
            case 2:
                blank();
                break;
            case 3:
                letter(some(1, 126));
                break;
            default:
                due("digest()", bank.digest(), model.digest());
                break;
        }
    }

    private void play(int steps) {
        if (random.nextInt(5) != 0) {
            readRiver(false);
        }
        for (int i = 0; i < steps && told.size() < 512; i++) {
            step();
        }
        due("digest()", bank.digest(), model.digest());
    }

    /** Goes to the last DAY, which 512 calls do not reach, for the leap day and the end of days. */
    private void playToTheEnd() {
        readRiver(false);
        int ends = 0;
        for (int i = 0; i < 20000 && ends < 3; i++) {
            int day = model.scene.today;
            if (day == 1100 || day == 1153 || day == 1430) {
                due("image()", bank.image(), model.image());
            }
            boolean near = day > 1090 && day < 1157 || day > 1425;
            for (int k = 0; near && k < 6; k++) {
                leaps += model.scene.today == 1154 ? 1 : 0;
                step();
            }
            int want = model.day();
            ends += want == -104 ? 1 : 0;
            due("day()", bank.day(), want);
        }
        due("days that ended", ends, 3);
        due("digest()", bank.digest(), model.digest());
    }

    /** Every single letter behind every beginning of a RIVER. */
    private void spoilEachPlace() {
        String text = anyRiver();
        for (int i = 0; i <= text.length(); i++) {
            for (int code = 1; code <= 126; code++) {
                OddBank fresh = new OddBank();
                for (int k = 0; k < i; k++) {
                    fresh.letter(text.charAt(k));
                }
                fresh.letter(code);
                Model other = new Model();
                other.page = text.substring(0, i) + (char) code;
                due("fault() of " + other.page, fresh.fault(), other.fault());
            }
        }
    }

    public static void main(String[] args) {
        for (int seed = 0; seed < 500; seed++) {
            new ModelTest(seed).play(500);
        }
        for (int seed = 1000; seed < 1030; seed++) {
            new ModelTest(seed).playToTheEnd();
        }
        if (leaps < 100) {
            wrong++;
            System.out.println("only " + leaps + " steps on the leap day");
        }
        for (int seed = 2000; seed < 2030; seed++) {
            new ModelTest(seed).spoilEachPlace();
        }
        System.out.println(calls + " calls, " + wrong + " wrong");
        if (wrong != 0) {
            System.exit(1);
        }
    }
}
