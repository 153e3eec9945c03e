import java.util.ArrayDeque;
import java.util.ArrayList;
import java.util.Arrays;
import java.util.Collections;
import java.util.Deque;
import java.util.HashSet;
import java.util.List;
import java.util.NoSuchElementException;
import java.util.Set;
import java.util.regex.Matcher;
import java.util.regex.Pattern;

/** The document told a second time, as plainly as can be: all orders are tried, all sets are tried. */
final class PlainModel {
    static final List<String> ORDERS = new ArrayList<>();

    static {
        permute("", "abcdefgh", ORDERS);
    }

    static void permute(String head, String rest, List<String> into) {
        if (rest.isEmpty()) {
            into.add(head);
        }
        for (int i = 0; i < rest.length(); i++) {
            permute(head + rest.charAt(i), rest.substring(0, i) + rest.substring(i + 1), into);
        }
    }

    static final class State {
        String order = "abcdefgh";
        List<String> names = new ArrayList<>();
        List<Integer> dry = new ArrayList<>();
        List<Integer> had = new ArrayList<>();
        int day;

        State copy() {
            State s = new State();
            s.order = order;
            s.names = new ArrayList<>(names);
            s.dry = new ArrayList<>(dry);
            s.had = new ArrayList<>(had);
            s.day = day;
            return s;
        }
    }

    State now = new State();
    List<Integer> thirst = new ArrayList<>();
    String heat = "0";
    String rule = "";
    String text = "";
    List<Long> row = new ArrayList<>();
    Deque<State> past = new ArrayDeque<>();
    State[] kept = new State[3];
    List<int[]> seen = new ArrayList<>();

    void tell(long... numbers) {
        row = new ArrayList<>();
        for (long n : numbers) {
            row.add(n);
        }
    }

    void tellOrder(String order) {
        row = new ArrayList<>();
        for (char c : order.toCharArray()) {
            row.add((long) (c - 'a'));
        }
    }

    void tellFraction(long upper, long lower) {
        if (upper == 0) {
            tell(0, 1);
            return;
        }
        for (long d = upper; d > 0; d--) {
            if (upper % d == 0 && lower % d == 0) {
                tell(upper / d, lower / d);
                return;
            }
        }
    }

    String takeText() {
        String t = text;
        text = "";
        return t;
    }

    // ---- texts

    /** The first place at which no right text goes on, the end for one that ends too early, -1 for a right one. */
    static int fault(String text, String right, String goesOn, int most) {
        for (int p = 0; p < text.length() && p < most; p++) {
            Matcher m = Pattern.compile(goesOn, Pattern.DOTALL).matcher(text.substring(0, p + 1));
            if (!m.matches() && !m.hitEnd()) {
                return p;
            }
        }
        if (text.length() > most) {
            return most;
        }
        return Pattern.compile(right, Pattern.DOTALL).matcher(text).matches() ? -1 : text.length();
    }

    static int orderFault(String text) {
        Set<Character> there = new HashSet<>();
        for (int p = 0; p < text.length(); p++) {
            char c = text.charAt(p);
            if (p == 8 || c < 'a' || c > 'h' || !there.add(c)) {
                return p;
            }
        }
        return text.length() < 8 ? text.length() : -1;
    }

    /** A reader of rules that goes down from what binds least. */
    static final class Reader {
        final String text;
        final int h;
        final int d;
        final int n;
        final int t;
        int p;
        int fault = -1;

        Reader(String text, int h, int d, int n, int t) {
            this.text = text;
            this.h = h;
            this.d = d;
            this.n = n;
            this.t = t;
        }

        char at() {
            return p < text.length() ? text.charAt(p) : (char) 0xffff;
        }

        int fail() {
            if (fault < 0) {
                fault = p;
            }
            return 0;
        }

        int all() {
            int v = expression(0);
            if (fault < 0 && p < text.length()) {
                fail();
            }
            return v;
        }

        int expression(int depth) {
            int left = sum(depth);
            if (fault < 0 && "<>=".indexOf(at()) >= 0) {
                char c = text.charAt(p++);
                int right = sum(depth);
                return (c == '<' ? left < right : c == '>' ? left > right : left == right) ? 1 : 0;
            }
            return left;
        }

        int sum(int depth) {
            int v = product(depth);
            while (fault < 0 && "+-".indexOf(at()) >= 0) {
                char c = text.charAt(p++);
                int w = product(depth);
                v = c == '+' ? v + w : v - w;
            }
            return v;
        }

        int product(int depth) {
            int v = thing(depth);
            while (fault < 0 && "*/".indexOf(at()) >= 0) {
                char c = text.charAt(p++);
                int w = thing(depth);
                v = c == '*' ? v * w : w == 0 ? 0 : v / w;
            }
            return v;
        }

        int thing(int depth) {
            if (fault >= 0) {
                return 0;
            }
            char c = at();
            if (c == '-') {
                p++;
                return -thing(depth);
            }
            if (c >= '0' && c <= '9') {
                int from = p;
                while (p < from + 3 && at() >= '0' && at() <= '9') {
                    p++;
                }
                return Integer.parseInt(text.substring(from, p));
            }
            if (c == '(' && depth < 4) {
                p++;
                int v = expression(depth + 1);
                if (fault < 0 && at() == ')') {
                    p++;
                    return v;
                }
                return fail();
            }
            if ("hdnt".indexOf(c) >= 0) {
                p++;
                return c == 'h' ? h : c == 'd' ? d : c == 'n' ? n : t;
            }
            return fail();
        }
    }

    static int ruleFault(String text) {
        if (text.isEmpty()) {
            return -1;
        }
        Reader r = new Reader(text.length() > 40 ? text.substring(0, 40) : text, 1, 1, 1, 1);
        r.all();
        if (text.length() > 40) {
            return r.fault < 0 || r.fault >= 40 ? 40 : r.fault;
        }
        return r.fault;
    }

    int yielded(String byRule, int day) {
        int all = 0;
        for (int c : thirst) {
            all += c;
        }
        int h = heat.charAt(day % heat.length()) - '0';
        int v = new Reader(byRule.isEmpty() ? "20-h*2" : byRule, h, day % 10, thirst.size(), all).all();
        return v < 0 ? 0 : v > 99 ? 99 : v;
    }

    // ---- books, days

    static boolean ahead(String order, List<String> names, int one, int other) {
        String a = names.get(one);
        String b = names.get(other);
        for (int i = 0; i < a.length() && i < b.length(); i++) {
            int c = order.indexOf(a.charAt(i)) - order.indexOf(b.charAt(i));
            if (c != 0) {
                return c < 0;
            }
        }
        return a.length() != b.length() ? a.length() < b.length() : one < other;
    }

    static List<Integer> bookOf(String order, List<String> names) {
        List<Integer> book = new ArrayList<>();
        for (int i = 0; i < names.size(); i++) {
            book.add(i);
        }
        Collections.sort(book, (a, b) -> a.equals(b) ? 0 : ahead(order, names, a, b) ? -1 : 1);
        return book;
    }

    int place(State s, int house) {
        return bookOf(s.order, s.names).indexOf(house);
    }

    int[] pour(List<Integer> book, int yielded) {
        int[] cups = new int[book.size()];
        for (int house : book) {
            cups[house] = Math.min(yielded, thirst.get(house));
            yielded -= cups[house];
        }
        return cups;
    }

    /** One DAY: the HOUSES that went dry. */
    Set<Integer> live(State s, String byRule, int[] leftTo) {
        Set<Integer> dry = new HashSet<>();
        int yielded = yielded(byRule, s.day);
        int[] cups = pour(bookOf(s.order, s.names), yielded);
        for (int i = 0; i < cups.length; i++) {
            yielded -= cups[i];
            s.had.set(i, s.had.get(i) + cups[i]);
            if (cups[i] < thirst.get(i)) {
                dry.add(i);
                s.dry.set(i, s.dry.get(i) + 1);
            }
        }
        leftTo[0] += yielded;
        s.day++;
        return dry;
    }

    boolean has(int house) {
        return house >= 0 && house < thirst.size();
    }

    boolean pair(int one, int other) {
        return has(one) && has(other) && one != other;
    }

    void done(State before) {
        past.addLast(before);
        if (past.size() > 15) {
            past.removeFirst();
        }
    }

    // ---- the calls

    int sign(int v) {
        if (text.length() > 76) {
            return -1;
        }
        for (int i = 3; i >= 0; i--) {
            text += (char) (v >> 8 * i & 0xff);
        }
        return text.length();
    }

    boolean end(int n) {
        if (n < 0 || n > text.length()) {
            return false;
        }
        text = text.substring(0, n);
        return true;
    }

    int houses() {
        String t = takeText();
        if (t.isEmpty()) {
            return 0;
        }
        int room = 8 - thirst.size();
        String line = "[a-h]{1,6}[1-9]";
        String some = room == 0 ? "" : line + "(;" + line + "){0," + (room - 1) + "}";
        int fault = room == 0 ? 0 : fault(t, some, some + ";?", 71);
        if (fault >= 0) {
            return -1 - fault;
        }
        String[] told = t.split(";");
        for (String one : told) {
            now.names.add(one.substring(0, one.length() - 1));
            now.dry.add(0);
            now.had.add(0);
            thirst.add(one.charAt(one.length() - 1) - '0');
        }
        past.clear();
        Arrays.fill(kept, null);
        return told.length;
    }

    int heat() {
        String t = takeText();
        int fault = fault(t, "[0-9]+", "[0-9]+", 20);
        if (fault >= 0) {
            return -1 - fault;
        }
        heat = t;
        return t.length();
    }

    int rule() {
        String t = takeText();
        int fault = ruleFault(t);
        if (fault >= 0) {
            return -1 - fault;
        }
        rule = t;
        return 0;
    }

    int house(int house, int what) {
        if (!has(house) || what < 0 || what > 5) {
            throw new NoSuchElementException();
        }
        int[] all = {now.names.get(house).length(), thirst.get(house), now.dry.get(house), now.had.get(house),
            place(now, house), pour(bookOf(now.order, now.names), yielded(rule, now.day))[house]};
        return all[what];
    }

    int letter(int house, int i) {
        if (!has(house) || i < 0 || i >= now.names.get(house).length()) {
            throw new NoSuchElementException();
        }
        return now.names.get(house).charAt(i) - 'a';
    }

    int sheet(int kind, int n, int f, int step) {
        if (kind < 0 || kind > 3 || n > 8) {
            return -1;
        }
        if (kind < 3 && n < 0) {
            return -2;
        }
        int all = 0;
        for (int i = 0; i < thirst.size(); i++) {
            int entry = f + i * step;
            entry = kind == 0 ? (byte) entry : kind == 1 ? (short) entry : entry;
            entry = entry < 1 ? 1 : entry > 9 ? 9 : entry;
            thirst.set(i, kind == 3 || i >= n ? 1 : entry);
            all += thirst.get(i);
        }
        return kind == 3 ? -3 : all;
    }

    int order() {
        String t = takeText();
        int fault = orderFault(t);
        if (fault >= 0) {
            return -1 - fault;
        }
        done(now.copy());
        char first = now.order.charAt(0);
        now.order = t;
        return t.indexOf(first);
    }

    int name(int house) {
        String t = takeText();
        if (!has(house)) {
            return -100;
        }
        int fault = fault(t, "[a-h]+", "[a-h]+", 6);
        if (fault >= 0) {
            return -1 - fault;
        }
        done(now.copy());
        now.names.set(house, t);
        return place(now, house);
    }

    int marry(int house, int other) {
        if (!pair(house, other)) {
            return -100;
        }
        done(now.copy());
        int before = place(now, house);
        now.names.set(house, now.names.get(other));
        return before - place(now, house);
    }

    int days(int n) {
        if (n < 0 || n > 60) {
            return -1;
        }
        done(now.copy());
        int[] left = {0};
        int often = 0;
        Set<Integer> who = new HashSet<>();
        for (int i = 0; i < n; i++) {
            Set<Integer> dry = live(now, rule, left);
            often += dry.size();
            who.addAll(dry);
        }
        tell(bits(who), left[0]);
        return often;
    }

    static int bits(Set<Integer> set) {
        int b = 0;
        for (int i : set) {
            b |= 1 << i;
        }
        return b;
    }

    static String turned(String order) {
        return order.substring(1) + order.charAt(0);
    }

    int year() {
        String t = takeText();
        String acts = "(d[0-9]|m[0-9][0-9]|r|s)*";
        int fault = fault(t, acts, acts, 60);
        if (fault >= 0) {
            return -1 - fault;
        }
        State before = now.copy();
        Matcher m = Pattern.compile("d[0-9]|m[0-9][0-9]|r|s").matcher(t);
        int many = 0;
        int refused = 0;
        while (refused == 0 && m.find()) {
            String act = m.group();
            if (act.charAt(0) == 'd') {
                for (int i = 0; i < act.charAt(1) - '0'; i++) {
                    live(now, rule, new int[1]);
                }
            } else if (act.equals("r")) {
                now.order = new StringBuilder(now.order).reverse().toString();
            } else if (act.equals("s")) {
                now.order = turned(now.order);
            } else if (pair(act.charAt(1) - '0', act.charAt(2) - '0')) {
                now.names.set(act.charAt(1) - '0', now.names.get(act.charAt(2) - '0'));
            } else {
                refused = 1;
                many--;
            }
            many++;
        }
        if (many > 0) {
            done(before);
        }
        tell(refused, sum(now.dry));
        return many;
    }

    static int sum(List<Integer> list) {
        int all = 0;
        for (int i : list) {
            all += i;
        }
        return all;
    }

    int undo() {
        if (past.isEmpty()) {
            return -1;
        }
        now = past.removeLast();
        return past.size();
    }

    int book() {
        row = new ArrayList<>();
        for (int house : bookOf(now.order, now.names)) {
            row.add((long) house);
        }
        return thirst.size();
    }

    int yields(int n) {
        if (n < 0 || n > 99) {
            return -1;
        }
        int yielded = yielded(rule, now.day + n);
        int[] cups = pour(bookOf(now.order, now.names), yielded);
        int full = 0;
        int left = yielded;
        for (int i = 0; i < cups.length; i++) {
            full += cups[i] == thirst.get(i) ? 1 : 0;
            left -= cups[i];
        }
        tell(full, left);
        return yielded;
    }

    int stops() {
        List<Integer> book = bookOf(now.order, now.names);
        int[] cups = pour(book, yielded(rule, now.day));
        for (int house : book) {
            if (cups[house] < thirst.get(house)) {
                tell(now.names.get(house).charAt(0) - 'a', cups[house]);
                return house;
            }
        }
        return -2;
    }

    int dry(int house, int n) {
        if (!has(house) || n < 0 || n > 60) {
            return -1;
        }
        State s = now.copy();
        int times = 0;
        for (int i = 0; i < n; i++) {
            times += live(s, rule, new int[1]).contains(house) ? 1 : 0;
        }
        tell(s.had.get(house) - now.had.get(house));
        return times;
    }

    int waits() {
        List<Integer> book = bookOf(now.order, now.names);
        int[] cups = pour(book, yielded(rule, now.day));
        List<Integer> drunk = new ArrayList<>();
        for (int house : book) {
            if (cups[house] > 0) {
                drunk.add(cups[house]);
            }
        }
        int all = waited(drunk);
        int last = drunk.isEmpty() ? 0 : sum(drunk) - drunk.get(drunk.size() - 1);
        Collections.sort(drunk);
        tell(waited(drunk), last);
        return all;
    }

    static int waited(List<Integer> drunk) {
        int all = 0;
        for (int i = 0; i < drunk.size(); i++) {
            all += sum(drunk.subList(0, i));
        }
        return all;
    }

    int fewest() {
        int yielded = yielded(rule, now.day);
        int best = 99;
        for (String order : ORDERS) {
            int[] cups = pour(bookOf(order, now.names), yielded);
            int dry = 0;
            for (int i = 0; i < cups.length; i++) {
                dry += cups[i] < thirst.get(i) ? 1 : 0;
            }
            if (dry < best) {
                best = dry;
                tellOrder(order);
            }
        }
        return best;
    }

    int likes(int house) {
        if (!has(house)) {
            return -1;
        }
        int best = 99;
        for (String order : ORDERS) {
            int place = 0;
            for (int other = 0; other < thirst.size(); other++) {
                place += other != house && ahead(order, now.names, other, house) ? 1 : 0;
            }
            if (place < best) {
                best = place;
                tellOrder(order);
            }
        }
        return best;
    }

    int rounds(int n) {
        if (n < 1 || n > 60) {
            return -1;
        }
        State s = now.copy();
        int[] times = new int[thirst.size()];
        int often = 0;
        for (int i = 0; i < n; i++) {
            for (int house : live(s, rule, new int[1])) {
                times[house]++;
                often++;
            }
            s.order = turned(s.order);
        }
        Arrays.sort(times);
        tell(times.length == 0 ? 0 : times[times.length - 1], times.length == 0 ? 0 : times[0]);
        return often;
    }

    int votes() {
        String t = takeText();
        int fault = orderFault(t);
        if (fault >= 0) {
            return -10000 - fault;
        }
        int earlier = 0;
        int later = 0;
        for (int i = 0; i < thirst.size(); i++) {
            int climbs = place(now, i) - bookOf(t, now.names).indexOf(i);
            earlier |= climbs > 0 ? 1 << i : 0;
            later |= climbs < 0 ? 1 << i : 0;
        }
        tell(earlier, later);
        return Integer.bitCount(earlier);
    }

    int sways() {
        List<Long> old = row;
        int forIt = votes();
        if (forIt <= -10000) {
            return forIt;
        }
        int won = row.get(0).intValue();
        row = old;
        int all = thirst.size();
        int best = -1;
        for (int set = 0; set < 1 << all; set++) {
            boolean enough = all == 0 || 2 * (forIt + Integer.bitCount(set)) > all;
            if ((set & won) == 0 && enough && (best < 0 || lessToWin(set, best))) {
                best = set;
            }
        }
        tell(best);
        return Integer.bitCount(best);
    }

    boolean lessToWin(int set, int other) {
        int few = Integer.bitCount(set) - Integer.bitCount(other);
        int cups = thirstOf(set) - thirstOf(other);
        return few != 0 ? few < 0 : cups != 0 ? cups < 0 : set < other;
    }

    int thirstOf(int set) {
        int all = 0;
        for (int i = 0; i < thirst.size(); i++) {
            all += (set >> i & 1) * thirst.get(i);
        }
        return all;
    }

    int initial(int house) {
        if (!has(house)) {
            return -1;
        }
        int best = -1;
        int least = 99;
        for (char c = 'a'; c <= 'h'; c++) {
            List<String> names = new ArrayList<>(now.names);
            names.set(house, c + names.get(house).substring(1));
            int place = bookOf(now.order, names).indexOf(house);
            if (place < least) {
                least = place;
                best = c - 'a';
            }
        }
        tell(least);
        return best;
    }

    int climb(int one, int other) {
        int house = place(now, one) > place(now, other) ? one : other;
        List<String> names = new ArrayList<>(now.names);
        names.set(house, names.get(one + other - house));
        return place(now, house) - bookOf(now.order, names).indexOf(house);
    }

    private int bestClimb;
    private List<Integer> bestPairs;

    int matches() {
        bestClimb = -1;
        bestPairs = null;
        int[][] climbs = new int[8][8];
        for (int i = 0; i < thirst.size(); i++) {
            for (int j = i + 1; j < thirst.size(); j++) {
                climbs[i][j] = climb(i, j);
            }
        }
        pairUp(0, 0, 0, new ArrayList<>(), climbs);
        row = new ArrayList<>();
        for (int i : bestPairs) {
            row.add((long) i);
        }
        return bestClimb;
    }

    void pairUp(int from, int used, int climbed, List<Integer> pairs, int[][] climbs) {
        if (from == thirst.size()) {
            if (climbed > bestClimb || climbed == bestClimb && lessPairs(pairs, bestPairs)) {
                bestClimb = climbed;
                bestPairs = new ArrayList<>(pairs);
            }
            return;
        }
        pairUp(from + 1, used, climbed, pairs, climbs);
        for (int j = from + 1; j < thirst.size() && (used >> from & 1) == 0; j++) {
            if ((used >> j & 1) == 0) {
                pairs.add(from);
                pairs.add(j);
                pairUp(from + 1, used | 1 << from | 1 << j, climbed + climbs[from][j], pairs, climbs);
                pairs.remove(pairs.size() - 1);
                pairs.remove(pairs.size() - 1);
            }
        }
    }

    static boolean lessPairs(List<Integer> one, List<Integer> other) {
        if (one.size() != other.size()) {
            return one.size() < other.size();
        }
        for (int i = 0; i < one.size(); i++) {
            if (!one.get(i).equals(other.get(i))) {
                return one.get(i) < other.get(i);
            }
        }
        return false;
    }

    int lines() {
        String t = takeText();
        Set<Character> there = new HashSet<>();
        for (int p = 0; p < t.length(); p++) {
            char c = t.charAt(p);
            if (c < '0' || c > '9' || !has(c - '0') || !there.add(c)) {
                return -1 - p;
            }
        }
        List<Integer> book = bookOf(now.order, now.names);
        int fewest = 99;
        int least = 0;
        for (int struck = 0; struck < 256; struck++) {
            int last = -1;
            boolean right = true;
            int listed = 0;
            for (char c : t.toCharArray()) {
                listed |= 1 << c - '0';
                if ((struck >> c - '0' & 1) == 0) {
                    right &= book.indexOf(c - '0') > last;
                    last = book.indexOf(c - '0');
                }
            }
            if (right && (struck & ~listed) == 0 && Integer.bitCount(struck) < fewest) {
                fewest = Integer.bitCount(struck);
                least = struck;
            }
        }
        tell(least);
        return fewest;
    }

    int lot(int house) {
        if (!has(house)) {
            return -1;
        }
        List<String> all = new ArrayList<>();
        permute("", "01234567".substring(0, thirst.size()), all);
        int yielded = yielded(rule, now.day);
        int good = 0;
        for (String one : all) {
            int left = yielded;
            for (char c : one.toCharArray()) {
                if (c - '0' == house) {
                    good += left >= thirst.get(house) ? 1 : 0;
                }
                left -= Math.min(left, thirst.get(c - '0'));
            }
        }
        tellFraction(good, all.size());
        return 0;
    }

    int shares(int v) {
        if (v < 0 || v > 99) {
            return -1;
        }
        int all = sum(thirst);
        List<Integer> rests = new ArrayList<>();
        long[] cups = new long[thirst.size()];
        int left = v;
        for (int i = 0; i < thirst.size(); i++) {
            cups[i] = v * thirst.get(i) / all;
            left -= cups[i];
            rests.add(i);
        }
        Collections.sort(rests, (a, b) -> v * thirst.get(b) % all - v * thirst.get(a) % all);
        for (int i = 0; i < left && !rests.isEmpty(); i++) {
            cups[rests.get(i)]++;
        }
        tell(cups);
        return cups.length == 0 ? 0 : (int) cups[0];
    }

    int saw(int one, int other) {
        if (!pair(one, other) || seen.size() == 8) {
            return -1;
        }
        seen.add(new int[] {one, other});
        return seen.size();
    }

    int forget() {
        int many = seen.size();
        seen.clear();
        return many;
    }

    List<String> fitting() {
        List<String> fit = new ArrayList<>();
        for (String order : ORDERS) {
            boolean fits = true;
            for (int[] s : seen) {
                fits = fits && ahead(order, now.names, s[0], s[1]);
            }
            if (fits) {
                fit.add(order);
            }
        }
        return fit;
    }

    int fits() {
        List<String> fit = fitting();
        tellOrder(fit.isEmpty() ? "" : fit.get(0));
        return fit.size();
    }

    static int havingAhead(List<String> orders, int i, int j) {
        int many = 0;
        for (String order : orders) {
            many += order.indexOf('a' + i) < order.indexOf('a' + j) ? 1 : 0;
        }
        return many;
    }

    int sure(int i, int j) {
        if (i < 0 || i > 7 || j < 0 || j > 7 || i == j) {
            return -1;
        }
        List<String> fit = fitting();
        int many = havingAhead(fit, i, j);
        tellFraction(many, fit.size());
        return many;
    }

    int ask() {
        List<String> fit = fitting();
        if (fit.isEmpty()) {
            return -2;
        }
        int best = Integer.MAX_VALUE;
        for (int i = 0; i < 8; i++) {
            for (int j = i + 1; j < 8; j++) {
                int most = Math.max(havingAhead(fit, i, j), havingAhead(fit, j, i));
                if (most < best) {
                    best = most;
                    tell(i, j);
                }
            }
        }
        return best;
    }

    int law() {
        String t = takeText();
        int fault = ruleFault(t);
        if (fault >= 0) {
            return -10000 - fault;
        }
        int[] often = new int[2];
        for (int which = 0; which < 2; which++) {
            State s = now.copy();
            for (int i = 0; i < 10; i++) {
                often[which] += live(s, which == 0 ? t : rule, new int[1]).size();
            }
        }
        tell(often[0], often[1]);
        return often[0] - often[1];
    }

    static int first(int x, int v) {
        return Math.min(x, v) - x / 3;
    }

    static int second(int x, int y, int v) {
        return Math.min(y, v - Math.min(x, v)) - y / 3;
    }

    int rests(int v) {
        if (v < 0 || v > 18) {
            return -1;
        }
        tell();
        int many = 0;
        for (int x = 0; x < 10; x++) {
            for (int y = 0; y < 10; y++) {
                boolean rest = true;
                for (int z = 0; z < 10; z++) {
                    rest &= first(z, v) <= first(x, v) && second(x, z, v) <= second(x, y, v);
                }
                if (rest && many++ == 0) {
                    tell(x, y);
                }
            }
        }
        return many;
    }

    private long drawn;

    int draw(int n) {
        drawn = (drawn * 1103515245L + 12345L) & 0xffffffffL;
        return (int) (drawn / 65536 % n);
    }

    int years(int seed, int n) {
        if (n < 1 || n > 60) {
            return -1;
        }
        drawn = seed & 0xffffffffL;
        State s = now.copy();
        int often = 0;
        for (int i = 0; i < n; i++) {
            int what = draw(5);
            if (what <= 2) {
                often += live(s, rule, new int[1]).size();
            } else if (what == 4) {
                s.order = turned(s.order);
            } else if (!thirst.isEmpty()) {
                int house = draw(thirst.size());
                int other = draw(thirst.size());
                s.names.set(house, s.names.get(other));
            }
        }
        int most = 0;
        for (int d : s.dry) {
            most = Math.max(most, d);
        }
        tell(thirst.isEmpty() ? -1 : bookOf(s.order, s.names).get(0), most);
        return often;
    }

    boolean keep(int i) {
        if (i < 0 || i > 2) {
            return false;
        }
        kept[i] = now.copy();
        return true;
    }

    boolean again(int i) {
        if (i < 0 || i > 2 || kept[i] == null) {
            return false;
        }
        now = kept[i].copy();
        past.clear();
        return true;
    }

    int count(int what) {
        int[] all = {thirst.size(), now.day, yielded(rule, now.day), sum(thirst), sum(now.dry), sum(now.had),
            now.order.charAt(0) - 'a', heat.length(), seen.size(), past.size(), row.size(), text.length()};
        return what < 0 || what > 11 ? -100 : all[what];
    }

    long row(int i) {
        if (i < 0 || i >= row.size()) {
            throw new NoSuchElementException();
        }
        return row.get(i);
    }
}
