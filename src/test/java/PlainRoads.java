import java.util.ArrayList;
import java.util.Comparator;
import java.util.HashMap;
import java.util.List;
import java.util.Map;
import java.util.NoSuchElementException;
import java.util.function.IntSupplier;

/**
 * The document once more, written in the plainest way: every WAY is made and sorted, every HALF is an object of its
 * own. It is only good for small sentences; where there are too many ways it gives up with TooMuch.
 */
final class PlainRoads {
    static final int NONE = -1;

    static final class TooMuch extends RuntimeException {
    }

    private static final class Wrong extends RuntimeException {
        final int at;

        Wrong(int at) {
            this.at = at;
        }
    }

    private static final class Phrase {
        List<Integer> source;
        List<Integer> target;
        int cost;
        boolean gone;

        Phrase(List<Integer> source, List<Integer> target, int cost, boolean gone) {
            this.source = source;
            this.target = target;
            this.cost = cost;
            this.gone = gone;
        }
    }

    private static final class Option {
        int start;
        int number;
        int covers;
        int cost;
        List<Integer> target;
    }

    private static final class Row {
        int covered;
        int behind;
        int cost;
        List<int[]> steps = new ArrayList<>();
        List<Integer> text = new ArrayList<>();
        int made;
    }

    private static final class State {
        List<String> words = new ArrayList<>();
        List<Phrase> phrases = new ArrayList<>();
        Map<List<Integer>, Integer> pairs = new HashMap<>();
        List<Integer> sentence = new ArrayList<>();
        int[] tuned = {20, 50, 2, 6, 8};

        State copy() {
            State other = new State();
            other.words.addAll(words);
            for (Phrase p : phrases) {
                other.phrases.add(new Phrase(p.source, p.target, p.cost, p.gone));
            }
            other.pairs.putAll(pairs);
            other.sentence.addAll(sentence);
            other.tuned = tuned.clone();
            return other;
        }
    }

    private final int mostWays;
    private final Map<List<Integer>, List<Row>> known = new HashMap<>();
    private State s = new State();
    private State image;
    private String tape = "";
    private int fault = NONE;
    private String text;
    private int at;

    PlainRoads(int mostWays) {
        this.mostWays = mostWays;
    }

    int feed(int a, int b, int c, int d, int e) {
        if (tape.length() + 20 > 400) {
            return NONE;
        }
        StringBuilder more = new StringBuilder(tape);
        for (int n : new int[] {a, b, c, d, e}) {
            for (int i = 3; i >= 0; i--) {
                more.append((char) (n >> (8 * i) & 0xff));
            }
        }
        tape = more.toString();
        return tape.length();
    }

    boolean end(int n) {
        if (n < 0 || n > tape.length()) {
            return false;
        }
        tape = tape.substring(0, n);
        return true;
    }

    // ---- texts

    private int reading(IntSupplier how) {
        known.clear();
        State before = s.copy();
        text = tape;
        tape = "";
        at = 0;
        fault = NONE;
        try {
            return how.getAsInt();
        } catch (Wrong w) {
            s = before;
            fault = w.at;
            throw new IllegalArgumentException();
        } catch (UnsupportedOperationException u) {
            s = before;
            throw u;
        }
    }

    private char ahead() {
        while (at < text.length() && text.charAt(at) == ' ') {
            at++;
        }
        return at < text.length() ? text.charAt(at) : '\uffff';
    }

    private static boolean isLetter(char c) {
        return c >= 'a' && c <= 'z';
    }

    private static boolean isDigit(char c) {
        return c >= '0' && c <= '9';
    }

    private boolean over() {
        return ahead() == '\uffff';
    }

    private String rawWord() {
        if (!isLetter(ahead())) {
            throw new Wrong(at);
        }
        int begin = at;
        while (at < text.length() && isLetter(text.charAt(at))) {
            at++;
        }
        if (at - begin > 8) {
            throw new Wrong(begin);
        }
        return text.substring(begin, at);
    }

    private int newWord() {
        ahead();
        int begin = at;
        String word = rawWord();
        if (!s.words.contains(word)) {
            if (s.words.size() == 40) {
                throw new Wrong(begin);
            }
            s.words.add(word);
        }
        return s.words.indexOf(word);
    }

    private int number(int most) {
        if (!isDigit(ahead())) {
            throw new Wrong(at);
        }
        int begin = at;
        while (at < text.length() && isDigit(text.charAt(at))) {
            at++;
        }
        if (at - begin > 3 || Integer.parseInt(text.substring(begin, at)) > most) {
            throw new Wrong(begin);
        }
        return Integer.parseInt(text.substring(begin, at));
    }

    private void sign(char c) {
        if (ahead() != c) {
            throw new Wrong(at);
        }
        at++;
    }

    private List<Integer> row(int least, int most) {
        List<Integer> row = new ArrayList<>();
        while (isLetter(ahead())) {
            if (row.size() == most) {
                throw new Wrong(at);
            }
            row.add(newWord());
        }
        if (row.size() < least) {
            throw new Wrong(at);
        }
        return row;
    }

    private Phrase living(List<Integer> source, List<Integer> target) {
        for (Phrase p : s.phrases) {
            if (!p.gone && p.source.equals(source) && p.target.equals(target)) {
                return p;
            }
        }
        return null;
    }

    int book() {
        return reading(() -> {
            List<Phrase> told = new ArrayList<>();
            List<Integer> begins = new ArrayList<>();
            while (!over()) {
                if (!told.isEmpty()) {
                    sign(';');
                    ahead();
                    if (told.size() == 12) {
                        throw new Wrong(at);
                    }
                }
                ahead();
                begins.add(at);
                List<Integer> source = row(1, 3);
                sign('=');
                List<Integer> target = row(0, 3);
                told.add(new Phrase(source, target, number(99), false));
                closing();
            }
            int came = 0;
            for (int i = 0; i < told.size(); i++) {
                Phrase p = told.get(i);
                Phrase there = living(p.source, p.target);
                if (there != null) {
                    there.cost = p.cost;
                    continue;
                }
                if (s.phrases.size() == 30) {
                    throw new Wrong(begins.get(i));
                }
                s.phrases.add(p);
                came++;
            }
            return came;
        });
    }

    /** Behind an ENTRY or a PAIR a sign without another one behind it is no end. */
    private void closing() {
        if (!over() && ahead() == ';' && text.substring(at + 1).replace(" ", "").isEmpty()) {
            throw new Wrong(text.length());
        }
    }

    int fluency() {
        return reading(() -> {
            List<int[]> told = new ArrayList<>();
            while (!over()) {
                if (!told.isEmpty()) {
                    sign(';');
                    ahead();
                    if (told.size() == 12) {
                        throw new Wrong(at);
                    }
                }
                ahead();
                int begin = at;
                int a = NONE;
                if (ahead() == '^') {
                    at++;
                } else {
                    a = newWord();
                }
                int b = NONE;
                if (ahead() == '$') {
                    at++;
                } else {
                    b = newWord();
                }
                told.add(new int[] {begin, a, b, number(99)});
                closing();
            }
            for (int[] t : told) {
                List<Integer> pair = List.of(t[1], t[2]);
                if (!s.pairs.containsKey(pair) && s.pairs.size() == 60) {
                    throw new Wrong(t[0]);
                }
                s.pairs.put(pair, t[3]);
            }
            return s.pairs.size();
        });
    }

    int sentence() {
        return reading(() -> {
            List<Integer> row = row(0, 6);
            if (!over()) {
                throw new Wrong(at);
            }
            s.sentence = row;
            return row.size();
        });
    }

    int learn() {
        return reading(() -> {
            List<Integer> one = row(1, 6);
            sign('=');
            List<Integer> two = row(1, 6);
            sign('/');
            List<List<Integer>> links = new ArrayList<>();
            do {
                if (!links.isEmpty()) {
                    sign(';');
                    ahead();
                    if (links.size() == 12) {
                        throw new Wrong(at);
                    }
                }
                ahead();
                int begin = at;
                int i = number(one.size() - 1);
                int j = number(two.size() - 1);
                if (links.contains(List.of(i, j))) {
                    throw new Wrong(begin);
                }
                links.add(List.of(i, j));
            } while (!over());
            return learned(one, two, links);
        });
    }

    private int learned(List<Integer> one, List<Integer> two, List<List<Integer>> links) {
        int came = 0;
        for (int a = 0; a < one.size(); a++) {
            for (int b = a; b < one.size() && b - a < 3; b++) {
                for (int c = 0; c < two.size(); c++) {
                    for (int d = c; d < two.size() && d - c < 3; d++) {
                        int both = 0;
                        int half = 0;
                        List<Integer> linkedOne = new ArrayList<>();
                        List<Integer> linkedTwo = new ArrayList<>();
                        for (List<Integer> link : links) {
                            boolean in1 = link.get(0) >= a && link.get(0) <= b;
                            boolean in2 = link.get(1) >= c && link.get(1) <= d;
                            both += in1 && in2 ? 1 : 0;
                            half += in1 != in2 ? 1 : 0;
                            linkedOne.add(link.get(0));
                            linkedTwo.add(link.get(1));
                        }
                        if (both == 0 || half != 0) {
                            continue;
                        }
                        List<Integer> source = new ArrayList<>(one.subList(a, b + 1));
                        List<Integer> target = new ArrayList<>(two.subList(c, d + 1));
                        Phrase there = living(source, target);
                        if (there != null) {
                            there.cost = there.cost == 0 ? 0 : there.cost - 1;
                            continue;
                        }
                        int cost = 10;
                        for (int i = a; i <= b; i++) {
                            cost += linkedOne.contains(i) ? 0 : 5;
                        }
                        for (int i = c; i <= d; i++) {
                            cost += linkedTwo.contains(i) ? 0 : 5;
                        }
                        if (s.phrases.size() == 30) {
                            throw new UnsupportedOperationException();
                        }
                        s.phrases.add(new Phrase(source, target, cost, false));
                        came++;
                    }
                }
            }
        }
        return came;
    }

    private List<Integer> told() {
        List<Integer> row = new ArrayList<>();
        reading(() -> {
            while (!over()) {
                ahead();
                int begin = at;
                String word = rawWord();
                if (row.size() == 18) {
                    throw new Wrong(begin);
                }
                row.add(s.words.contains(word) ? s.words.indexOf(word) : -7);
            }
            return 0;
        });
        return row;
    }

    int fault() {
        return fault;
    }

    // ---- what is held

    private static void index(int i, int size) {
        if (i < 0 || i >= size) {
            throw new IndexOutOfBoundsException();
        }
    }

    private static void what(int what, int most) {
        if (what < 0 || what > most) {
            throw new NoSuchElementException();
        }
    }

    private static void number(int n, int least, int most) {
        if (n < least || n > most) {
            throw new IllegalArgumentException();
        }
    }

    private static int pick(List<Integer> row, int k) {
        return k < 0 || k >= row.size() ? NONE : row.get(k);
    }

    int letter(int word, int k) {
        index(word, s.words.size());
        String w = s.words.get(word);
        return k < 0 || k >= w.length() ? NONE : w.charAt(k) - 'a';
    }

    int phrase(int phrase, int what) {
        index(phrase, s.phrases.size());
        what(what, 5);
        Phrase p = s.phrases.get(phrase);
        int often = 0;
        for (Option o : options(NONE)) {
            often += o.number == phrase ? 1 : 0;
        }
        switch (what) {
            case 0: return p.source.size();
            case 1: return p.target.size();
            case 2: return p.cost;
            case 3: return p.gone ? 1 : 0;
            case 4: return often;
            default: return p.gone ? 0 : all(phrase, s.tuned[2], s.tuned[3]).get(0).cost - exact();
        }
    }

    int part(int phrase, boolean target, int k) {
        index(phrase, s.phrases.size());
        Phrase p = s.phrases.get(phrase);
        return pick(target ? p.target : p.source, k);
    }

    private int flow(int a, int b) {
        return s.pairs.getOrDefault(List.of(a, b), s.tuned[0]);
    }

    int after(int first, int second) {
        index(first + 1, s.words.size() + 1);
        index(second + 1, s.words.size() + 1);
        return flow(first, second);
    }

    int place(int place) {
        index(place, s.sentence.size());
        return s.sentence.get(place);
    }

    int put(int place, int word) {
        index(place, s.sentence.size());
        index(word, s.words.size());
        known.clear();
        return s.sentence.set(place, word);
    }

    int price(int phrase, int n) {
        index(phrase, s.phrases.size());
        number(n, 0, 99);
        int was = s.phrases.get(phrase).cost;
        s.phrases.get(phrase).cost = n;
        known.clear();
        return was;
    }

    boolean drop(int phrase, boolean is) {
        index(phrase, s.phrases.size());
        Phrase p = s.phrases.get(phrase);
        if (p.gone && !is && living(p.source, p.target) != null) {
            throw new IllegalArgumentException();
        }
        boolean changed = p.gone != is;
        p.gone = is;
        known.clear();
        return changed;
    }

    int tune(int what, int n) {
        what(what, 4);
        number(n, what == 4 ? 1 : 0, new int[] {99, 99, 20, 6, 40}[what]);
        int was = s.tuned[what];
        s.tuned[what] = n;
        known.clear();
        return was;
    }

    // ---- ways

    private List<Option> options(int without) {
        List<Option> options = new ArrayList<>();
        for (int place = 0; place < s.sentence.size(); place++) {
            for (int i = 0; i <= s.phrases.size(); i++) {
                boolean pass = i == s.phrases.size();
                Phrase p = pass ? null : s.phrases.get(i);
                int covers = pass ? 1 : p.source.size();
                if (place + covers > s.sentence.size() || i == without) {
                    continue;
                }
                List<Integer> here = s.sentence.subList(place, place + covers);
                if (!pass && (p.gone || !p.source.equals(here))) {
                    continue;
                }
                Option o = new Option();
                o.start = place;
                o.number = pass ? 99 : i;
                o.covers = covers;
                o.cost = pass ? s.tuned[1] : p.cost;
                o.target = pass ? new ArrayList<>(here) : p.target;
                options.add(o);
            }
        }
        return options;
    }

    int option(int place, int k) {
        index(place, s.sentence.size());
        List<Integer> numbers = new ArrayList<>();
        for (Option o : options(NONE)) {
            if (o.start == place) {
                numbers.add(o.number);
            }
        }
        numbers.sort(Comparator.naturalOrder());
        return pick(numbers, k);
    }

    private static int bits(Option o) {
        int bits = 0;
        for (int i = 0; i < o.covers; i++) {
            bits |= 1 << (o.start + i);
        }
        return bits;
    }

    private static int lastOf(List<Integer> text) {
        return text.isEmpty() ? NONE : text.get(text.size() - 1);
    }

    private Row follow(Row before, Option o, int jump, int far) {
        int gap = Math.abs(before.behind - o.start);
        if ((before.covered & bits(o)) != 0 || gap > far) {
            return null;
        }
        Row next = new Row();
        next.covered = before.covered | bits(o);
        next.behind = o.start + o.covers;
        next.text.addAll(before.text);
        int cost = o.cost + jump * gap;
        for (int word : o.target) {
            cost += flow(lastOf(next.text), word);
            next.text.add(word);
        }
        next.cost = before.cost + cost;
        next.steps.addAll(before.steps);
        next.steps.add(new int[] {o.start, o.number, cost});
        return next;
    }

    private List<Row> all(int without, int jump, int far) {
        return known.computeIfAbsent(List.of(without, jump, far), key -> make(without, jump, far));
    }

    private List<Row> make(int without, int jump, int far) {
        List<Option> options = options(without);
        List<Row> rows = new ArrayList<>();
        List<Row> ways = new ArrayList<>();
        rows.add(new Row());
        int full = (1 << s.sentence.size()) - 1;
        while (!rows.isEmpty()) {
            Row row = rows.remove(rows.size() - 1);
            if (row.covered == full) {
                row.cost += flow(lastOf(row.text), NONE);
                ways.add(row);
                if (ways.size() > mostWays) {
                    throw new TooMuch();
                }
                continue;
            }
            for (Option o : options) {
                Row next = follow(row, o, jump, far);
                if (next != null) {
                    rows.add(next);
                }
            }
        }
        ways.sort((x, y) -> {
            if (x.cost != y.cost) {
                return Integer.compare(x.cost, y.cost);
            }
            for (int i = 0; i < x.steps.size() && i < y.steps.size(); i++) {
                int[] a = x.steps.get(i);
                int[] b = y.steps.get(i);
                if (a[0] != b[0]) {
                    return Integer.compare(a[0], b[0]);
                }
                if (a[1] != b[1]) {
                    return Integer.compare(a[1], b[1]);
                }
            }
            return 0;
        });
        return ways;
    }

    private List<Row> all() {
        return all(NONE, s.tuned[2], s.tuned[3]);
    }

    int stretch(int from, int to) {
        index(from, s.sentence.size());
        index(to, s.sentence.size());
        if (to < from) {
            throw new IllegalArgumentException();
        }
        return stretchOf(from, to);
    }

    private int stretchOf(int from, int to) {
        int least = Integer.MAX_VALUE;
        for (Option o : options(NONE)) {
            if (o.start == from && o.covers == to - from + 1) {
                int cost = o.cost;
                for (int i = 1; i < o.target.size(); i++) {
                    cost += flow(o.target.get(i - 1), o.target.get(i));
                }
                least = Math.min(least, cost);
            }
        }
        for (int m = from; m < to; m++) {
            least = Math.min(least, stretchOf(from, m) + stretchOf(m + 1, to));
        }
        return least;
    }

    int exact() {
        return all().get(0).cost;
    }

    int many() {
        return all().size();
    }

    int way(int k, int what) {
        what(what, 2);
        number(k, 0, 29);
        List<Row> all = all();
        if (k >= all.size()) {
            return NONE;
        }
        Row row = all.get(k);
        return what == 0 ? row.cost : what == 1 ? row.steps.size() : row.text.size();
    }

    int step(int k, int n, int what) {
        what(what, 2);
        number(k, 0, 29);
        List<Row> all = all();
        if (k >= all.size() || n < 0 || n >= all.get(k).steps.size()) {
            return NONE;
        }
        return all.get(k).steps.get(n)[what];
    }

    int word(int k, int n) {
        number(k, 0, 29);
        List<Row> all = all();
        return k >= all.size() ? NONE : pick(all.get(k).text, n);
    }

    // ---- stacks

    private final class Stacks {
        List<List<Row>> stacks = new ArrayList<>();
        int[] counts = new int[7];
        int[] leasts = {NONE, NONE, NONE, NONE, NONE, NONE, NONE};
        int made;
        int merged;
        int cut;
        Row found;
        int cost = NONE;

        int score(Row half) {
            int sum = half.cost;
            int place = 0;
            while (place < s.sentence.size()) {
                int end = place;
                while (end < s.sentence.size() && (half.covered >> end & 1) == 0) {
                    end++;
                }
                if (end > place) {
                    sum += stretchOf(place, end - 1);
                }
                place = end + 1;
            }
            return sum;
        }

        Stacks(int wide) {
            int size = s.sentence.size();
            List<Option> options = options(NONE);
            for (int n = 0; n <= size; n++) {
                stacks.add(new ArrayList<>());
            }
            stacks.get(0).add(new Row());
            for (int n = 0; n <= size; n++) {
                List<Row> stack = stacks.get(n);
                counts[n] = stack.size();
                stack.sort((x, y) -> score(x) != score(y) ? score(x) - score(y) : x.made - y.made);
                leasts[n] = stack.isEmpty() ? NONE : score(stack.get(0));
                if (n == size) {
                    break;
                }
                while (stack.size() > wide) {
                    stack.remove(stack.size() - 1);
                    cut++;
                }
                for (Row half : stack) {
                    for (Option o : options) {
                        Row next = follow(half, o, s.tuned[2], s.tuned[3]);
                        if (next != null) {
                            made++;
                            next.made = made;
                            lay(next);
                        }
                    }
                }
            }
            for (Row row : stacks.get(size)) {
                int whole = row.cost + flow(lastOf(row.text), NONE);
                if (found == null || whole < cost || whole == cost && row.made < found.made) {
                    found = row;
                    cost = whole;
                }
            }
        }

        void lay(Row next) {
            List<Row> stack = stacks.get(Integer.bitCount(next.covered));
            for (int i = 0; i < stack.size(); i++) {
                Row there = stack.get(i);
                if (there.covered == next.covered && there.behind == next.behind && lastOf(there.text) == lastOf(next.text)) {
                    merged++;
                    if (next.cost < there.cost) {
                        stack.set(i, next);
                    }
                    return;
                }
            }
            stack.add(next);
        }
    }

    int found(int what) {
        what(what, 4);
        Stacks k = new Stacks(s.tuned[4]);
        switch (what) {
            case 0: return k.cost;
            case 1: return k.found == null ? NONE : k.found.steps.size();
            case 2: return k.made;
            case 3: return k.merged;
            default: return k.cut;
        }
    }

    int halves(int n, int what) {
        what(what, 1);
        Stacks k = new Stacks(s.tuned[4]);
        return k.found == null || n < 0 || n >= k.found.steps.size() ? NONE : k.found.steps.get(n)[what];
    }

    int stack(int n, int what) {
        index(n, s.sentence.size() + 1);
        what(what, 1);
        Stacks k = new Stacks(s.tuned[4]);
        return what == 0 ? k.counts[n] : k.leasts[n];
    }

    // ---- told texts

    int forced() {
        List<Integer> told = told();
        for (Row row : all()) {
            if (row.text.equals(told)) {
                return row.cost;
            }
        }
        return NONE;
    }

    private static int apart(List<Integer> a, List<Integer> b) {
        int[][] d = new int[a.size() + 1][b.size() + 1];
        for (int i = 0; i <= a.size(); i++) {
            for (int j = 0; j <= b.size(); j++) {
                if (i == 0 || j == 0) {
                    d[i][j] = i + j;
                } else {
                    int same = a.get(i - 1).equals(b.get(j - 1)) ? 0 : 1;
                    d[i][j] = Math.min(d[i - 1][j - 1] + same, Math.min(d[i - 1][j], d[i][j - 1]) + 1);
                }
            }
        }
        return d[a.size()][b.size()];
    }

    int near() {
        List<Integer> told = told();
        return apart(all().get(0).text, told);
    }

    private static Map<List<Integer>, Integer> rows(List<Integer> text, int n) {
        Map<List<Integer>, Integer> rows = new HashMap<>();
        for (int i = 0; i + n <= text.size(); i++) {
            rows.merge(new ArrayList<>(text.subList(i, i + n)), 1, Integer::sum);
        }
        return rows;
    }

    int match(int n) {
        if (n < 1 || n > 3) {
            tape = "";
            throw new IllegalArgumentException();
        }
        Map<List<Integer>, Integer> theirs = rows(told(), n);
        int sum = 0;
        for (Map.Entry<List<Integer>, Integer> e : rows(all().get(0).text, n).entrySet()) {
            sum += Math.min(e.getValue(), theirs.getOrDefault(e.getKey(), 0));
        }
        return sum;
    }

    int agreed(int n) {
        number(n, 1, 10);
        List<Row> all = all();
        List<Row> first = all.subList(0, Math.min(n, all.size()));
        int best = NONE;
        int least = 0;
        for (int i = 0; i < first.size(); i++) {
            int sum = 0;
            for (Row other : first) {
                sum += apart(first.get(i).text, other.text);
            }
            if (best == NONE || sum < least) {
                best = i;
                least = sum;
            }
        }
        return best;
    }

    int needed() {
        int bits = 0;
        for (int p = 0; p < s.phrases.size(); p++) {
            bits |= phrase(p, 5) > 0 ? 1 << p : 0;
        }
        return bits;
    }

    int idle() {
        int bits = 0;
        for (int p = 0; p < s.phrases.size(); p++) {
            bits |= !s.phrases.get(p).gone && phrase(p, 4) == 0 ? 1 << p : 0;
        }
        return bits;
    }

    int reach() {
        int least = all(NONE, s.tuned[2], 6).get(0).cost;
        for (int far = 0; far < 6; far++) {
            if (all(NONE, s.tuned[2], far).get(0).cost == least) {
                return far;
            }
        }
        return 6;
    }

    int width() {
        int exact = exact();
        for (int wide = 1; wide <= 40; wide++) {
            if (new Stacks(wide).cost == exact) {
                return wide;
            }
        }
        return NONE;
    }

    int tuned() {
        List<Integer> told = told();
        int best = 0;
        int least = Integer.MAX_VALUE;
        for (int jump = 0; jump <= 20; jump++) {
            int apart = apart(all(NONE, jump, s.tuned[3]).get(0).text, told);
            if (apart < least) {
                least = apart;
                best = jump;
            }
        }
        return best;
    }

    void image() {
        image = s.copy();
    }

    boolean back() {
        if (image == null) {
            return false;
        }
        s = image.copy();
        known.clear();
        return true;
    }

    int count(int what) {
        switch (what) {
            case 0: return s.words.size();
            case 1: return s.phrases.size();
            case 2: return s.pairs.size();
            case 3: return s.sentence.size();
            case 4: case 5: case 6: case 7: case 8: return s.tuned[what - 4];
            case 9: return (int) s.phrases.stream().filter(p -> !p.gone).count();
            default: return NONE;
        }
    }
}
