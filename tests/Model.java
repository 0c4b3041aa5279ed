import java.util.ArrayList;
import java.util.Arrays;
import java.util.HashMap;
import java.util.LinkedList;
import java.util.List;
import java.util.Map;
import java.util.NoSuchElementException;
import java.util.regex.Matcher;
import java.util.regex.Pattern;

/** The document once more, written apart from SilenceBall and as slowly as it likes, to be compared with it. */
final class Model {
    interface Sum {
        int of(Night night);
    }

    record Guest(String name, int kind, int at, int chin, int breath, int weight) { }

    record Belt(String name, int bears) { }

    record Man(String name, int at, int reach) { }

    record Line(String act, int man, int belt, int guest) { }

    record Sight(int depth, int minutes) { }

    record Token(String text, int place) { }

    static final class Fault extends Exception {
        private static final long serialVersionUID = 1;
        final int code;

        Fault(int kind, Token token) {
            code = kind + 16 * token.place();
        }
    }

    static final class Told {
        final List<Guest> guests = new ArrayList<>();
        final List<Belt> belts = new ArrayList<>();
        final List<Man> men = new ArrayList<>();
        Integer holes;
        Integer water;
        Sum rises;
    }

    /** Where all are and what they have: copied whole for every what-if. */
    final class Night {
        int minute;
        int holes = told.holes == null ? 0 : told.holes;
        int depth = told.water == null ? 0 : told.water;
        int[] at = told.guests.stream().mapToInt(Guest::at).toArray();
        int[] breath = told.guests.stream().mapToInt(Guest::breath).toArray();
        String[] is = told.guests.stream().map(g -> "in").toArray(String[]::new);
        int[] holder = told.belts.stream().mapToInt(b -> -1).toArray();
        boolean[] done = new boolean[told.men.size()];

        Night copy() {
            Night copy = new Night();
            copy.minute = minute;
            copy.holes = holes;
            copy.depth = depth;
            copy.at = at.clone();
            copy.breath = breath.clone();
            copy.is = is.clone();
            copy.holder = holder.clone();
            copy.done = done.clone();
            return copy;
        }

        int beltOf(int g) {
            for (int b = 0; b < holder.length; b++) {
                if (holder[b] == g) {
                    return b;
                }
            }
            return -1;
        }

        boolean in(int g) {
            return is[g].equals("in");
        }

        boolean under(int g) {
            Guest guest = told.guests.get(g);
            boolean held = beltOf(g) >= 0 && told.belts.get(beltOf(g)).bears() >= guest.weight();
            return in(g) && depth > guest.chin() && !held && (guest.kind() == 0 || guest.kind() == 2);
        }

        boolean cries(int g) {
            Guest guest = told.guests.get(g);
            return in(g) && guest.kind() != 3 && beltOf(g) < 0 && depth > guest.chin();
        }

        boolean reaches(int m, int g) {
            Man man = told.men.get(m);
            return !done[m] && in(g) && told.guests.get(g).kind() != 3 && beltOf(g) < 0 && Math.abs(man.at() - at[g]) <= man.reach();
        }

        boolean cast(int m, int b, int g) {
            boolean there = m >= 0 && m < done.length && b >= 0 && b < holder.length && g >= 0 && g < at.length;
            if (!there || holder[b] >= 0 || !reaches(m, g)) {
                return false;
            }
            holder[b] = g;
            done[m] = true;
            return true;
        }

        boolean ask() {
            if (holes == 9) {
                return false;
            }
            holes++;
            return true;
        }

        boolean stop(int m) {
            if (m < 0 || m >= done.length || done[m] || holes == 0) {
                return false;
            }
            holes--;
            done[m] = true;
            return true;
        }

        int pass() {
            int sunk = 0;
            boolean[] under = new boolean[at.length];
            for (int g = 0; g < at.length; g++) {
                under[g] = under(g);
            }
            for (int g = 0; g < at.length; g++) {
                if (under[g]) {
                    breath[g]--;
                    if (breath[g] == 0) {
                        leave(g, "sunk");
                        sunk += 1 << g;
                    }
                } else if (in(g)) {
                    breath[g] = told.guests.get(g).breath();
                }
            }
            for (int g = 0; g < at.length; g++) {
                if (in(g) && (beltOf(g) >= 0 || told.guests.get(g).kind() == 3)) {
                    at[g]--;
                    if (at[g] == 0) {
                        leave(g, "safe");
                    }
                }
            }
            int by = told.rises == null ? holes : told.rises.of(this);
            by = by > 9 ? 9 : by < -9 ? -9 : by;
            depth += by;
            depth = depth < 0 ? 0 : depth > 60 ? 60 : depth;
            Arrays.fill(done, false);
            minute++;
            return sunk;
        }

        private void leave(int g, String how) {
            is[g] = how;
            int b = beltOf(g);
            if (b >= 0) {
                holder[b] = -1;
            }
        }

        int who(String how) {
            int bits = 0;
            for (int g = 0; g < at.length; g++) {
                bits |= is[g].equals(how) ? 1 << g : 0;
            }
            return bits;
        }

        Night after(int minutes) {
            Night night = copy();
            for (int n = 0; n < minutes; n++) {
                night.pass();
            }
            return night;
        }
    }

    private StringBuilder tape = new StringBuilder();
    private Told told = new Told();
    private List<Line> evening = new ArrayList<>();
    private Night now = new Night();
    private LinkedList<Night> acts = new LinkedList<>();
    private List<Sight> seen = new ArrayList<>();
    private Map<Integer, Night> marks = new HashMap<>();
    private Map<Integer, List<Sight>> markSeen = new HashMap<>();

    // ---- reading

    private static final List<String> KINDS = List.of("plain", "waver", "heavy", "shabby");
    private static final List<String> KEPT = List.of("guest", "at", "chin", "breath", "weighs", "belt", "bears", "man", "reach",
        "holes", "water", "rises", "minute", "cast", "ask", "stop", "plain", "waver", "heavy", "shabby", "not", "and", "or");

    private List<Token> tokens;
    private int next;

    int feed(long a, long b, long c) {
        for (long eight : new long[] {a, b, c}) {
            for (byte sign : java.nio.ByteBuffer.allocate(8).putLong(eight).array()) {
                if ((sign == 10 || sign >= 32 && sign < 127) && tape.length() < 1000) {
                    tape.append((char) sign);
                }
            }
        }
        return tape.length();
    }

    private void split() {
        String text = tape.toString();
        tape = new StringBuilder();
        tokens = new ArrayList<>();
        next = 0;
        Matcher m = Pattern.compile("[a-z]+|[0-9]+|[^ \n]").matcher(text);
        while (m.find()) {
            tokens.add(new Token(m.group(), m.start()));
        }
        tokens.add(new Token("", text.length()));
    }

    private Token token() {
        return tokens.get(next);
    }

    private boolean at(String text) {
        return token().text().equals(text);
    }

    private void take(String text) throws Fault {
        if (!at(text)) {
            throw new Fault(1, token());
        }
        next++;
    }

    private String name() throws Fault {
        if (!token().text().matches("[a-z]{1,8}") || KEPT.contains(token().text())) {
            throw new Fault(1, token());
        }
        return token().text();
    }

    private String newName(Told draft) throws Fault {
        String name = name();
        boolean there = draft.guests.stream().anyMatch(g -> g.name().equals(name)) || draft.belts.stream().anyMatch(b -> b.name().equals(name))
            || draft.men.stream().anyMatch(m -> m.name().equals(name));
        if (there) {
            throw new Fault(3, token());
        }
        next++;
        return name;
    }

    private int number(int least, int most) throws Fault {
        if (!token().text().matches("[0-9]{1,4}")) {
            throw new Fault(1, token());
        }
        int number = Integer.parseInt(token().text());
        if (number < least || number > most) {
            throw new Fault(4, token());
        }
        next++;
        return number;
    }

    private int measure(String word, int least, int most) throws Fault {
        take(word);
        return number(least, most);
    }

    int room() {
        split();
        Told draft = new Told();
        try {
            while (next < tokens.size() - 1) {
                roomLine(draft);
            }
        } catch (Fault fault) {
            return fault.code;
        }
        told = draft;
        evening = new ArrayList<>();
        now = new Night();
        acts = new LinkedList<>();
        seen = new ArrayList<>();
        marks = new HashMap<>();
        return 0;
    }

    private void roomLine(Told draft) throws Fault {
        Token first = token();
        switch (first.text()) {
            case "guest" -> {
                check(draft.guests.size() < 6, 5, first);
                next++;
                String name = newName(draft);
                int kind = KINDS.indexOf(token().text());
                check(kind >= 0, 1, token());
                next++;
                int place = measure("at", 1, 9);
                int chin = measure("chin", 1, 40);
                int breath = measure("breath", 1, 9);
                int weighs = measure("weighs", 1, 30);
                draft.guests.add(new Guest(name, kind, place, chin, breath, kind == 2 ? weighs + 5 : weighs));
            }
            case "belt" -> {
                check(draft.belts.size() < 5, 5, first);
                next++;
                String name = newName(draft);
                draft.belts.add(new Belt(name, measure("bears", 1, 40)));
            }
            case "man" -> {
                check(draft.men.size() < 3, 5, first);
                next++;
                String name = newName(draft);
                int place = measure("at", 0, 9);
                draft.men.add(new Man(name, place, measure("reach", 0, 9)));
            }
            case "holes" -> {
                check(draft.holes == null, 3, first);
                next++;
                draft.holes = number(0, 9);
            }
            case "water" -> {
                check(draft.water == null, 3, first);
                next++;
                draft.water = number(0, 40);
            }
            case "rises" -> {
                check(draft.rises == null, 3, first);
                next++;
                draft.rises = e(0);
            }
            default -> throw new Fault(1, first);
        }
        take(";");
    }

    private static void check(boolean right, int kind, Token token) throws Fault {
        if (!right) {
            throw new Fault(kind, token);
        }
    }

    private Sum e(int within) throws Fault {
        Sum left = test(within);
        while (at("and") || at("or")) {
            boolean both = at("and");
            next++;
            Sum a = left;
            Sum b = test(within);
            left = n -> (both ? a.of(n) != 0 & b.of(n) != 0 : a.of(n) != 0 | b.of(n) != 0) ? 1 : 0;
        }
        return left;
    }

    private Sum test(int within) throws Fault {
        Sum a = sum(within);
        if (at("<")) {
            next++;
            Sum b = sum(within);
            return n -> a.of(n) < b.of(n) ? 1 : 0;
        }
        if (at("=")) {
            next++;
            Sum b = sum(within);
            return n -> a.of(n) == b.of(n) ? 1 : 0;
        }
        return a;
    }

    private Sum sum(int within) throws Fault {
        Sum left = product(within);
        while (at("+") || at("-")) {
            int sign = at("+") ? 1 : -1;
            next++;
            Sum a = left;
            Sum b = product(within);
            left = n -> a.of(n) + sign * b.of(n);
        }
        return left;
    }

    private Sum product(int within) throws Fault {
        Sum left = part(within);
        while (at("*")) {
            next++;
            Sum a = left;
            Sum b = part(within);
            left = n -> a.of(n) * b.of(n);
        }
        return left;
    }

    private Sum part(int within) throws Fault {
        Token first = token();
        String text = first.text();
        boolean number = text.matches("[0-9]{1,4}");
        check(number || List.of("gaps", "depth", "talk", "out", "not", "(").contains(text), 1, first);
        check(within < 5, 5, first);
        next++;
        if (number) {
            int value = Integer.parseInt(text);
            return n -> value;
        }
        switch (text) {
            case "gaps":
                return n -> n.holes;
            case "depth":
                return n -> n.depth;
            case "talk":
                return n -> Integer.bitCount(n.who("in"));
            case "out":
                return n -> (int) Arrays.stream(n.holder).filter(h -> h >= 0).count();
            case "not":
                Sum a = part(within + 1);
                return n -> a.of(n) == 0 ? 1 : 0;
            default:
                Sum inner = e(within + 1);
                take(")");
                return inner;
        }
    }

    int evening() {
        split();
        List<Line> draft = new ArrayList<>();
        try {
            while (next < tokens.size() - 1) {
                Token first = token();
                check(List.of("minute", "cast", "ask", "stop").contains(first.text()), 1, first);
                check(draft.size() < 40, 5, first);
                next++;
                boolean cast = first.text().equals("cast");
                int man = cast || first.text().equals("stop") ? known(told.men.stream().map(Man::name).toList()) : -1;
                int belt = cast ? known(told.belts.stream().map(Belt::name).toList()) : -1;
                int guest = cast ? known(told.guests.stream().map(Guest::name).toList()) : -1;
                take(";");
                draft.add(new Line(first.text(), man, belt, guest));
            }
        } catch (Fault fault) {
            return fault.code;
        }
        evening = draft;
        return 0;
    }

    private int known(List<String> names) throws Fault {
        int found = names.indexOf(name());
        check(found >= 0, 2, token());
        next++;
        return found;
    }

    // ---- what stands and what is done

    private boolean isGuest(int g) {
        return g >= 0 && g < told.guests.size();
    }

    private boolean isBelt(int b) {
        return b >= 0 && b < told.belts.size();
    }

    private boolean isMan(int m) {
        return m >= 0 && m < told.men.size();
    }

    int guest(int g, int what) {
        if (!isGuest(g) || what < 0 || what > 6) {
            return -2;
        }
        Guest guest = told.guests.get(g);
        return List.of(guest.kind(), now.at[g], guest.chin(), now.breath[g], guest.weight(), now.beltOf(g),
            List.of("in", "safe", "sunk").indexOf(now.is[g])).get(what);
    }

    int belt(int b, int what) {
        return !isBelt(b) || what < 0 || what > 1 ? -2 : what == 0 ? told.belts.get(b).bears() : now.holder[b];
    }

    int man(int m, int what) {
        if (!isMan(m) || what < 0 || what > 2) {
            return -1;
        }
        return what == 0 ? told.men.get(m).at() : what == 1 ? told.men.get(m).reach() : now.done[m] ? 0 : 1;
    }

    private void kept(Night before) {
        acts.addLast(before);
        if (acts.size() > 16) {
            acts.removeFirst();
        }
    }

    boolean cast(int m, int b, int g) {
        Night before = now.copy();
        boolean can = now.cast(m, b, g);
        if (can) {
            kept(before);
        }
        return can;
    }

    int ask() {
        Night before = now.copy();
        if (!now.ask()) {
            return -1;
        }
        kept(before);
        return now.holes;
    }

    int stop(int m) {
        Night before = now.copy();
        if (!now.stop(m)) {
            return -1;
        }
        kept(before);
        return now.holes;
    }

    int minute() {
        kept(now.copy());
        return now.pass();
    }

    boolean undo() {
        if (acts.isEmpty()) {
            return false;
        }
        now = acts.removeLast();
        return true;
    }

    int judged(int what) {
        Night night = new Night();
        int bar = -1;
        int sinks = -1;
        for (int i = 0; i < evening.size(); i++) {
            Line line = evening.get(i);
            boolean can = true;
            switch (line.act()) {
                case "minute" -> {
                    if (night.pass() != 0 && sinks < 0) {
                        sinks = i;
                    }
                }
                case "ask" -> can = night.ask();
                case "stop" -> can = night.stop(line.man());
                default -> can = night.cast(line.man(), line.belt(), line.guest());
            }
            if (!can && bar < 0) {
                bar = i;
            }
        }
        return what == 0 ? bar : what == 1 ? sinks : what == 2 ? Integer.bitCount(night.who("safe")) : -2;
    }

    int under() {
        int bits = 0;
        for (int g = 0; g < told.guests.size(); g++) {
            bits |= now.under(g) ? 1 << g : 0;
        }
        return bits;
    }

    int cries() {
        int bits = 0;
        for (int g = 0; g < told.guests.size(); g++) {
            bits |= now.cries(g) ? 1 << g : 0;
        }
        return bits;
    }

    // ---- what comes

    int later(int minutes) {
        return minutes < 0 || minutes > 60 ? -1 : now.after(minutes).depth;
    }

    int over(int depth) {
        for (int n = 0; depth >= 0 && depth <= 60 && n <= 60; n++) {
            if (later(n) >= depth) {
                return n;
            }
        }
        return -1;
    }

    private int until(int g, String how) {
        for (int n = 1; isGuest(g) && now.in(g) && n <= 60; n++) {
            if (now.after(n).is[g].equals(how)) {
                return n;
            }
        }
        return -1;
    }

    int sinks(int g) {
        return until(g, "sunk");
    }

    int first() {
        int first = -1;
        for (int g = 0; g < told.guests.size(); g++) {
            if (sinks(g) > 0 && (first < 0 || sinks(g) < sinks(first))) {
                first = g;
            }
        }
        return first;
    }

    int home(int g) {
        return until(g, "safe");
    }

    int quiet() {
        for (int n = 0; n <= 60; n++) {
            if (now.after(n).who("in") == 0) {
                return n;
            }
        }
        return -1;
    }

    int when(int g) {
        for (int n = 0; isGuest(g) && n <= 60; n++) {
            if (now.after(n).cries(g)) {
                return n;
            }
        }
        return -1;
    }

    int lost(int minutes) {
        return minutes < 0 || minutes > 60 ? -1 : now.after(minutes).who("sunk");
    }

    // ---- who, by whom, with what

    private boolean bears(int b, int g) {
        return told.belts.get(b).bears() >= told.guests.get(g).weight();
    }

    int fits(int b) {
        int bits = 0;
        for (int g = 0; g < told.guests.size() && isBelt(b); g++) {
            bits |= now.in(g) && told.guests.get(g).kind() != 3 && bears(b, g) ? 1 << g : 0;
        }
        return isBelt(b) ? bits : -1;
    }

    int could(int m) {
        int bits = 0;
        for (int g = 0; g < told.guests.size() && isMan(m); g++) {
            bits |= now.reaches(m, g) ? 1 << g : 0;
        }
        return isMan(m) ? bits : -1;
    }

    /** All pairs of rows are compared by: how many, the guests' row, the belts' row; none is 9. */
    private List<Integer> bestRows() {
        List<List<Integer>> all = new ArrayList<>();
        allRows(0, new ArrayList<>(), new ArrayList<>(), all);
        List<Integer> best = null;
        for (List<Integer> one : all) {
            if (best == null || compare(one, best) < 0) {
                best = one;
            }
        }
        return best;
    }

    private static int compare(List<Integer> one, List<Integer> other) {
        for (int i = 0; i < one.size(); i++) {
            if (!one.get(i).equals(other.get(i))) {
                return one.get(i) - other.get(i);
            }
        }
        return 0;
    }

    private void allRows(int m, List<Integer> guests, List<Integer> belts, List<List<Integer>> all) {
        if (m == told.men.size()) {
            List<Integer> row = new ArrayList<>();
            row.add((int) guests.stream().filter(g -> g == 9).count());
            row.addAll(guests);
            row.addAll(belts);
            all.add(row);
            return;
        }
        for (int g = 0; g <= told.guests.size(); g++) {
            for (int b = 0; b <= told.belts.size(); b++) {
                boolean none = g == told.guests.size() && b == told.belts.size();
                boolean pair = g < told.guests.size() && b < told.belts.size() && !guests.contains(g) && !belts.contains(b)
                    && now.cries(g) && now.reaches(m, g) && now.holder[b] < 0 && bears(b, g);
                if (none || pair) {
                    List<Integer> moreGuests = new ArrayList<>(guests);
                    List<Integer> moreBelts = new ArrayList<>(belts);
                    moreGuests.add(none ? 9 : g);
                    moreBelts.add(none ? 9 : b);
                    allRows(m + 1, moreGuests, moreBelts, all);
                }
            }
        }
    }

    int best(int what) {
        if (what != -1 && !isMan(what)) {
            return -2;
        }
        List<Integer> best = bestRows();
        if (what == -1) {
            return told.men.size() - best.get(0);
        }
        return best.get(1 + what) == 9 ? -1 : best.get(1 + what);
    }

    int with(int m) {
        if (!isMan(m)) {
            return -2;
        }
        int belt = bestRows().get(1 + told.men.size() + m);
        return belt == 9 ? -1 : belt;
    }

    int need() {
        List<Integer> crying = new ArrayList<>();
        for (int g = 0; g < told.guests.size(); g++) {
            if (now.cries(g)) {
                crying.add(g);
            }
        }
        int best = -1;
        int least = Integer.MAX_VALUE;
        for (int set = 0; set < 1 << told.belts.size(); set++) {
            int sum = 0;
            for (int b = 0; b < told.belts.size(); b++) {
                sum += (set >> b & 1) * told.belts.get(b).bears();
            }
            if (Integer.bitCount(set) == crying.size() && dealt(crying, 0, set) && sum < least) {
                best = set;
                least = sum;
            }
        }
        return best;
    }

    private boolean dealt(List<Integer> crying, int from, int set) {
        if (from == crying.size()) {
            return true;
        }
        for (int b = 0; b < told.belts.size(); b++) {
            if ((set >> b & 1) == 1 && bears(b, crying.get(from)) && dealt(crying, from + 1, set - (1 << b))) {
                return true;
            }
        }
        return false;
    }

    int latest(int g) {
        if (!isGuest(g) || !now.in(g) || enough(g) < 0) {
            return -1;
        }
        return sinks(g) < 0 ? 60 : sinks(g) - 1;
    }

    int enough(int g) {
        int best = -1;
        for (int b = told.belts.size() - 1; b >= 0 && isGuest(g); b--) {
            if (bears(b, g) && (best < 0 || told.belts.get(b).bears() <= told.belts.get(best).bears())) {
                best = b;
            }
        }
        return best;
    }

    int near(int g) {
        for (int far = 0; far < 10 && isGuest(g); far++) {
            for (int m = 0; m < told.men.size(); m++) {
                if (Math.abs(told.men.get(m).at() - now.at[g]) == far) {
                    return m;
                }
            }
        }
        return -1;
    }

    int gap(int g, int h) {
        return isGuest(g) && isGuest(h) && g != h ? Math.abs(now.at[g] - now.at[h]) : -1;
    }

    private int[] places() {
        int[] many = new int[10];
        for (int g = 0; g < told.guests.size(); g++) {
            if (now.in(g)) {
                many[now.at[g]]++;
            }
        }
        return many;
    }

    int row() {
        return Arrays.stream(places()).max().getAsInt();
    }

    int dense() {
        for (int p = 1; p < 10 && row() > 0; p++) {
            if (places()[p] == row()) {
                return p;
            }
        }
        return -1;
    }

    int tight() {
        for (int above = -60; above <= 40; above++) {
            for (int g = 0; g < told.guests.size(); g++) {
                Guest guest = told.guests.get(g);
                if (now.in(g) && guest.kind() % 2 == 0 && now.beltOf(g) < 0 && guest.chin() - now.depth == above) {
                    return g;
                }
            }
        }
        return -1;
    }

    int spare() {
        int bits = 0;
        for (int b = 0; b < told.belts.size(); b++) {
            bits |= now.holder[b] < 0 && fits(b) == 0 ? 1 << b : 0;
        }
        return bits;
    }

    boolean save(int g, int m, int b) {
        Night night = now.copy();
        return night.cast(m, b, g) && !night.after(60).is[g].equals("sunk");
    }

    int worth(int m) {
        int saved = 0;
        for (int g = 0; g < told.guests.size(); g++) {
            saved += sinks(g) > 0 && save(g, m, enough(g)) ? 1 : 0;
        }
        return isMan(m) ? saved : -1;
    }

    // ---- reckoned

    boolean see(int depth, int minutes) {
        boolean can = depth >= 0 && depth <= 60 && minutes >= 1 && minutes <= 20 && seen.size() < 8;
        if (can) {
            seen.add(new Sight(depth, minutes));
        }
        return can;
    }

    private int depth(int holes, int minutes) {
        Night night = new Night();
        night.holes = holes;
        return night.after(minutes).depth;
    }

    int holes() {
        int bits = 0;
        for (int h = 0; h < 10; h++) {
            int holes = h;
            bits |= seen.stream().allMatch(s -> depth(holes, s.minutes()) == s.depth()) ? 1 << h : 0;
        }
        return bits;
    }

    int look() {
        int possible = holes();
        int best = -1;
        int least = Integer.bitCount(possible);
        for (int n = 1; n <= 20; n++) {
            int[] many = new int[61];
            for (int h = 0; h < 10; h++) {
                many[depth(h, n)] += possible >> h & 1;
            }
            int most = Arrays.stream(many).max().getAsInt();
            if (most < least) {
                least = most;
                best = n;
            }
        }
        return best;
    }

    int chance(int g, int minutes, int odds) {
        if (!isGuest(g) || minutes < 1 || minutes > 6 || odds < 0 || odds > 10) {
            return -1;
        }
        long part = sunkParts(now, g, minutes, odds);
        long whole = 1;
        for (int n = 0; n < minutes; n++) {
            whole *= 10;
        }
        return (int) (part * 1000000 / whole);
    }

    private long sunkParts(Night night, int g, int minutes, int odds) {
        if (minutes == 0) {
            return night.is[g].equals("sunk") ? 1 : 0;
        }
        Night asked = night.copy();
        asked.ask();
        return odds * sunkParts(asked.after(1), g, minutes - 1, odds) + (10 - odds) * sunkParts(night.after(1), g, minutes - 1, odds);
    }

    int rests(int lose, int waves, int talks, int what) {
        for (int prize : new int[] {lose, waves, talks}) {
            if (prize < 0 || prize > 9) {
                throw new NoSuchElementException();
            }
        }
        int[][] first = {{0, talks}, {waves, -lose}};
        List<Integer> rests = new ArrayList<>();
        for (int a = 0; a < 2; a++) {
            for (int b = 0; b < 2; b++) {
                boolean firstMore = first[1 - a][b] > first[a][b];
                boolean otherMore = first[1 - b][a] > first[b][a];
                if (!firstMore && !otherMore) {
                    rests.add(2 * a + b);
                }
            }
        }
        if (what < -1 || what >= rests.size()) {
            throw new NoSuchElementException();
        }
        return what == -1 ? rests.size() : rests.get(what);
    }

    int balls(int seed, int minutes, int what) {
        if (seed < 0 || seed > 9999 || minutes < 1 || minutes > 99 || what < 0 || what > 2) {
            return -1;
        }
        Night night = now.copy();
        long[] g = {seed};
        int casts = 0;
        for (int n = 0; n < minutes; n++) {
            if (!told.men.isEmpty() && !told.guests.isEmpty() && !told.belts.isEmpty()) {
                int man = draw(g, told.men.size());
                int belt = draw(g, told.belts.size());
                int guest = draw(g, told.guests.size());
                switch (draw(g, 5)) {
                    case 0 -> night.ask();
                    case 1 -> night.stop(man);
                    case 2, 3 -> casts += night.cast(man, belt, guest) ? 1 : 0;
                    default -> { }
                }
            }
            night.pass();
        }
        return what == 0 ? casts : night.who(what == 1 ? "sunk" : "safe");
    }

    private static int draw(long[] g, int below) {
        g[0] = (g[0] * 1103515245 + 12345) % 2147483648L;
        return (int) (g[0] / 65536 % below);
    }

    boolean mark(int mark, boolean back) {
        if (mark < 0 || mark > 3 || back && !marks.containsKey(mark)) {
            return false;
        }
        if (back) {
            now = marks.get(mark).copy();
            seen = new ArrayList<>(markSeen.get(mark));
            acts.clear();
        } else {
            marks.put(mark, now.copy());
            markSeen.put(mark, new ArrayList<>(seen));
        }
        return true;
    }

    int count(int what) {
        int wall = 0;
        for (int b = 0; b < told.belts.size(); b++) {
            wall |= now.holder[b] < 0 ? 1 << b : 0;
        }
        int[] counts = {told.guests.size(), told.belts.size(), told.men.size(), now.minute, now.holes, now.depth, now.who("in"),
            now.who("safe"), now.who("sunk"), wall, evening.size(), seen.size(), acts.size(), tape.length()};
        return what >= 0 && what < counts.length ? counts[what] : -1;
    }
}
