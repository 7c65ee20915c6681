import java.util.ArrayDeque;
import java.util.ArrayList;
import java.util.Arrays;
import java.util.Deque;
import java.util.List;
import java.util.TreeSet;

/**
 * The document once more, as slowly and as literally as it can be written, for runs at random:
 * everything is drawn dot by dot, every forecast makes its frames, and plays are read by recursion.
 */
final class Model {
    static final int INVALID = -101;
    static final int STATE = -102;
    static final int FULL = -103;
    static final int NONE = -109;

    static final class Puppet {
        int number, x, y, tall, picture, color, flips, hiddenFrames, onEnd, most;

        Puppet copy() {
            Puppet p = new Puppet();
            p.number = number;
            p.x = x;
            p.y = y;
            p.tall = tall;
            p.picture = picture;
            p.color = color;
            p.flips = flips;
            p.hiddenFrames = hiddenFrames;
            p.onEnd = onEnd;
            p.most = most;
            return p;
        }

        int height() {
            return tall == 1 ? 16 : 8;
        }

        boolean stands(int line) {
            return line >= y && line < y + height();
        }
    }

    static final class State {
        boolean[][][] pictures = new boolean[8][8][8];
        List<Puppet> order = new ArrayList<>();
        int come = 0, limit = 8, rule = 0, step = 1, frames = 0;

        State copy() {
            State s = new State();
            for (int p = 0; p < 8; p++) {
                for (int r = 0; r < 8; r++) {
                    s.pictures[p][r] = pictures[p][r].clone();
                }
            }
            for (Puppet p : order) {
                s.order.add(p.copy());
            }
            s.come = come;
            s.limit = limit;
            s.rule = rule;
            s.step = step;
            s.frames = frames;
            return s;
        }

        Puppet find(int number) {
            for (Puppet p : order) {
                if (p.number == number) {
                    return p;
                }
            }
            return null;
        }

        List<Puppet> standing(int line) {
            List<Puppet> all = new ArrayList<>();
            for (Puppet p : order) {
                if (p.stands(line)) {
                    all.add(p);
                }
            }
            return all;
        }

        List<Puppet> shown(int line) {
            List<Puppet> all = standing(line);
            return all.subList(0, Math.min(limit, all.size()));
        }

        List<Puppet> hidden(int line) {
            List<Puppet> all = standing(line);
            return all.subList(Math.min(limit, all.size()), all.size());
        }

        boolean isHidden(Puppet p) {
            for (int line = 0; line < 48; line++) {
                if (hidden(line).contains(p)) {
                    return true;
                }
            }
            return false;
        }

        /** The whole puppet is drawn first, and its dots are exchanged then. */
        boolean has(Puppet p, int x, int line) {
            if (x < p.x || x >= p.x + 8 || !p.stands(line)) {
                return false;
            }
            boolean[][] all = new boolean[p.height()][8];
            for (int r = 0; r < p.height(); r++) {
                for (int c = 0; c < 8; c++) {
                    all[r][c] = r < 8 ? pictures[p.picture][r][c] : pictures[p.picture == 7 ? 0 : p.picture + 1][r - 8][c];
                }
            }
            boolean[][] flipped = new boolean[p.height()][8];
            for (int r = 0; r < p.height(); r++) {
                for (int c = 0; c < 8; c++) {
                    int row = p.flips == 2 || p.flips == 3 ? p.height() - 1 - r : r;
                    int column = p.flips == 1 || p.flips == 3 ? 7 - c : c;
                    flipped[row][column] = all[r][c];
                }
            }
            return flipped[line - p.y][x - p.x];
        }

        int color(int x, int line) {
            for (Puppet p : shown(line)) {
                if (has(p, x, line)) {
                    return p.color;
                }
            }
            return 0;
        }

        Puppet hero() {
            TreeSet<Integer> numbers = new TreeSet<>();
            for (Puppet p : order) {
                numbers.add(p.number);
            }
            return numbers.isEmpty() ? null : find(numbers.first());
        }

        int makeFrame() {
            List<Puppet> front = new ArrayList<>();
            List<Puppet> back = new ArrayList<>();
            for (Puppet p : order) {
                if (isHidden(p)) {
                    p.hiddenFrames++;
                    p.onEnd++;
                    p.most = Math.max(p.most, p.onEnd);
                    front.add(p);
                } else {
                    p.onEnd = 0;
                    back.add(p);
                }
            }
            if (rule == 1 && !order.isEmpty()) {
                for (int i = 0; i < step; i++) {
                    order.add(order.remove(0));
                }
            } else if (rule == 2) {
                order = new ArrayList<>(front);
                order.addAll(back);
            }
            frames++;
            return front.size();
        }
    }

    /** An act with a letter, or a group. */
    static final class Node {
        int place, depth;
        char letter;
        int[] numbers;
        int times;
        List<Node> inside;
    }

    static final class Fault extends RuntimeException {
        final int place, depth;

        Fault(int place, int depth) {
            this.place = place;
            this.depth = depth;
        }
    }

    private State state = new State();
    private final Deque<State> history = new ArrayDeque<>();
    private final StringBuilder text = new StringBuilder();
    private int[] failure = null;
    private int at = 0;

    Model() {
        for (boolean[][] picture : state.pictures) {
            for (boolean[] row : picture) {
                Arrays.fill(row, true);
            }
        }
    }

    private void keep(State s) {
        history.addLast(s);
        if (history.size() > 5) {
            history.removeFirst();
        }
    }

    private static boolean out(int value, int least, int most) {
        return value < least || value > most;
    }

    int setRow(int picture, int row, int dots) {
        if (out(picture, 0, 7) || out(row, 0, 7) || out(dots, 0, 255)) {
            return INVALID;
        }
        keep(state.copy());
        int old = 0;
        for (int c = 0; c < 8; c++) {
            old = old * 2 + (state.pictures[picture][row][c] ? 1 : 0);
            state.pictures[picture][row][c] = (dots & (128 >> c)) != 0;
        }
        return old;
    }

    int come(int x, int y, int tall, int picture, int color) {
        if (out(x, -15, 63) || out(y, -15, 47) || out(tall, 0, 1) || out(picture, 0, 7) || out(color, 1, 9)) {
            return INVALID;
        }
        if (state.come == 20) {
            return FULL;
        }
        keep(state.copy());
        Puppet p = new Puppet();
        p.number = state.come++;
        p.x = x;
        p.y = y;
        p.tall = tall;
        p.picture = picture;
        p.color = color;
        state.order.add(p);
        return p.number;
    }

    int leave(int puppet) {
        Puppet p = state.find(puppet);
        if (p == null) {
            return INVALID;
        }
        keep(state.copy());
        int position = state.order.indexOf(p);
        state.order.remove(p);
        return position;
    }

    int move(int puppet, int x, int y) {
        State old = state.copy();
        int answer = doMove(puppet, x, y);
        return kept(old, answer);
    }

    private int kept(State old, int answer) {
        if (answer != INVALID && answer != FULL) {
            keep(old);
        }
        return answer;
    }

    private int doMove(int puppet, int x, int y) {
        Puppet p = state.find(puppet);
        if (p == null || out(x, -15, 63) || out(y, -15, 47)) {
            return INVALID;
        }
        p.x = x;
        p.y = y;
        return linesOf(p);
    }

    private static int linesOf(Puppet p) {
        int lines = 0;
        for (int line = 0; line < 48; line++) {
            if (p.stands(line)) {
                lines++;
            }
        }
        return lines;
    }

    int turn(int puppet, int flips) {
        State old = state.copy();
        return kept(old, doTurn(puppet, flips));
    }

    private int doTurn(int puppet, int flips) {
        Puppet p = state.find(puppet);
        if (p == null || out(flips, 0, 3)) {
            return INVALID;
        }
        int old = p.flips;
        p.flips = flips;
        return old;
    }

    int lift(int puppet) {
        State old = state.copy();
        return kept(old, doPut(puppet, true));
    }

    int lower(int puppet) {
        State old = state.copy();
        return kept(old, doPut(puppet, false));
    }

    private int doPut(int puppet, boolean first) {
        Puppet p = state.find(puppet);
        if (p == null) {
            return INVALID;
        }
        int position = state.order.indexOf(p);
        state.order.remove(p);
        state.order.add(first ? 0 : state.order.size(), p);
        return position;
    }

    int setLimit(int limit) {
        State old = state.copy();
        return kept(old, doLimit(limit));
    }

    private int doLimit(int limit) {
        if (out(limit, 1, 8)) {
            return INVALID;
        }
        int old = state.limit;
        state.limit = limit;
        return old;
    }

    int setRule(int rule, int step) {
        if (out(rule, 0, 2) || out(step, 1, 19)) {
            return INVALID;
        }
        keep(state.copy());
        int old = state.rule;
        state.rule = rule;
        state.step = step;
        return old;
    }

    int frame() {
        State old = state.copy();
        return kept(old, doFrame());
    }

    private int doFrame() {
        return state.frames == 9999 ? FULL : state.makeFrame();
    }

    int undo() {
        if (history.isEmpty()) {
            return STATE;
        }
        state = history.removeLast();
        return history.size();
    }

    int append(int character) {
        if (out(character, 1, 255)) {
            return INVALID;
        }
        if (text.length() == 100) {
            return FULL;
        }
        text.append((char) character);
        return text.length();
    }

    int clearText() {
        int length = text.length();
        text.setLength(0);
        return length;
    }

    int run() {
        List<Node> acts = new ArrayList<>();
        try {
            at = 0;
            List<Node> play = readPlay(1);
            if (at < text.length()) {
                throw new Fault(at, 1);
            }
            unroll(play, acts);
        } catch (Fault fault) {
            failure = new int[] {1, fault.place, fault.depth, 0, NONE};
            return -1000 - fault.place;
        }
        if (acts.size() > 200) {
            Node act = acts.get(200);
            failure = new int[] {3, act.place, act.depth, 0, NONE};
            return -1000 - act.place;
        }
        State old = state.copy();
        for (int done = 0; done < acts.size(); done++) {
            Node act = acts.get(done);
            int answer = perform(act);
            if (answer == INVALID || answer == FULL) {
                state = old;
                failure = new int[] {2, act.place, act.depth, done, answer};
                return -1000 - act.place;
            }
        }
        keep(old);
        return acts.size();
    }

    private int perform(Node act) {
        int[] n = act.numbers;
        switch (act.letter) {
            case 'f':
                return doFrame();
            case 'm':
                return doMove(n[0], n[1], n[2]);
            case 't':
                return doTurn(n[0], n[1]);
            case 'u':
                return doPut(n[0], true);
            case 'd':
                return doPut(n[0], false);
            case 'l':
                return doLimit(n[0]);
            default:
                throw new IllegalStateException();
        }
    }

    private static void unroll(List<Node> play, List<Node> acts) {
        for (Node node : play) {
            if (node.inside == null) {
                acts.add(node);
                continue;
            }
            for (int i = 0; i < node.times && acts.size() <= 200; i++) {
                unroll(node.inside, acts);
            }
        }
    }

    private char next() {
        return at < text.length() ? text.charAt(at) : 0;
    }

    private static boolean digit(char c) {
        return "0123456789".indexOf(c) >= 0;
    }

    private List<Node> readPlay(int depth) {
        List<Node> play = new ArrayList<>();
        while (at < text.length() && next() != ')') {
            play.add(digit(next()) || next() == '(' ? readGroup(depth) : readAct(depth));
        }
        return play;
    }

    private Node readGroup(int depth) {
        Node group = new Node();
        group.times = 1;
        if (digit(next())) {
            int start = at;
            group.times = readNumber(depth);
            if (digit(next())) {
                throw new Fault(at, depth);
            }
            if (group.times < 1 || group.times > 9) {
                throw new Fault(start, depth);
            }
        }
        if (next() != '(' || depth == 5) {
            throw new Fault(at, depth);
        }
        at++;
        group.inside = readPlay(depth + 1);
        if (next() != ')') {
            throw new Fault(at, depth + 1);
        }
        at++;
        return group;
    }

    private int readNumber(int depth) {
        StringBuilder digits = new StringBuilder();
        while (digit(next()) && digits.length() < 3 && !digits.toString().equals("0")) {
            digits.append(next());
            at++;
        }
        if (digits.length() == 0) {
            throw new Fault(at, depth);
        }
        return Integer.parseInt(digits.toString());
    }

    private Node readAct(int depth) {
        Node act = new Node();
        act.place = at;
        act.depth = depth;
        act.letter = next();
        int many = "fudltm".indexOf(act.letter);
        if (many < 0) {
            throw new Fault(at, depth);
        }
        act.numbers = new int[new int[] {0, 1, 1, 1, 2, 3}[many]];
        at++;
        for (int i = 0; i < act.numbers.length; i++) {
            if (i > 0) {
                skip(',', depth);
            }
            boolean minus = act.letter == 'm' && i > 0 && next() == '-';
            if (minus) {
                at++;
            }
            act.numbers[i] = readNumber(depth) * (minus ? -1 : 1);
        }
        skip(';', depth);
        return act;
    }

    private void skip(char c, int depth) {
        if (next() != c) {
            throw new Fault(at, depth);
        }
        at++;
    }

    int failure(int what) {
        if (out(what, 0, 4)) {
            return INVALID;
        }
        return failure == null ? NONE : failure[what];
    }

    int count(int what) {
        int number = 0;
        switch (what) {
            case 0:
                return state.order.size();
            case 1:
                return state.come;
            case 2:
                return state.limit;
            case 3:
                return state.rule;
            case 4:
                return state.step;
            case 5:
                return state.frames;
            case 6:
                for (Puppet p : state.order) {
                    number += state.isHidden(p) ? 1 : 0;
                }
                return number;
            case 7:
                for (int line = 0; line < 48; line++) {
                    number += dotsOf(line);
                }
                return number;
            case 8:
                return state.hero() == null ? NONE : state.hero().number;
            case 9:
                return history.size();
            case 10:
                return text.length();
            default:
                return INVALID;
        }
    }

    private int dotsOf(int line) {
        int dots = 0;
        for (int x = 0; x < 64; x++) {
            dots += state.color(x, line) != 0 ? 1 : 0;
        }
        return dots;
    }

    int puppet(int puppet, int what) {
        Puppet p = state.find(puppet);
        if (p == null || out(what, 0, 11)) {
            return INVALID;
        }
        int hidden = 0;
        for (int line = 0; line < 48; line++) {
            hidden += state.hidden(line).contains(p) ? 1 : 0;
        }
        return new int[] {p.x, p.y, p.tall, p.picture, p.color, p.flips, state.order.indexOf(p), linesOf(p), hidden,
            p.hiddenFrames, p.onEnd, p.most}[what];
    }

    int line(int y, int what) {
        if (out(y, 0, 47) || out(what, 0, 2)) {
            return INVALID;
        }
        return what == 0 ? state.standing(y).size() : what == 1 ? state.shown(y).size() : dotsOf(y);
    }

    int shown(int y, int index) {
        if (out(y, 0, 47) || index < 0) {
            return INVALID;
        }
        return index < state.shown(y).size() ? state.shown(y).get(index).number : NONE;
    }

    int dot(int x, int y) {
        return out(x, 0, 63) || out(y, 0, 47) ? INVALID : state.color(x, y);
    }

    int clash(int what) {
        if (out(what, 0, 3)) {
            return INVALID;
        }
        Puppet hero = state.hero();
        int number = 0;
        int[] first = null;
        for (int y = 0; y < 48; y++) {
            List<Puppet> shown = state.shown(y);
            for (int x = 0; x < 64 && shown.contains(hero); x++) {
                int other = NONE;
                for (int i = shown.size() - 1; i >= 0; i--) {
                    if (shown.get(i) != hero && state.has(shown.get(i), x, y)) {
                        other = shown.get(i).number;
                    }
                }
                if (other != NONE && state.has(hero, x, y)) {
                    number++;
                    first = first == null ? new int[] {0, x, y, other} : first;
                }
            }
        }
        return what == 0 ? number : first == null ? NONE : first[what];
    }

    int hiddenIn(int puppet, int frames) {
        if (state.find(puppet) == null || out(frames, 1, 60)) {
            return INVALID;
        }
        State future = state.copy();
        int number = 0;
        for (int i = 0; i < frames; i++) {
            number += future.isHidden(future.find(puppet)) ? 1 : 0;
            future.makeFrame();
        }
        return number;
    }

    int allShownIn() {
        State future = state.copy();
        TreeSet<Integer> waiting = new TreeSet<>();
        for (Puppet p : state.order) {
            waiting.add(p.number);
        }
        for (int frames = 0; frames <= 60; frames++) {
            if (waiting.isEmpty()) {
                return frames;
            }
            for (Puppet p : future.order) {
                if (!future.isHidden(p)) {
                    waiting.remove(p.number);
                }
            }
            future.makeFrame();
        }
        return NONE;
    }

    int bestStep(int what) {
        if (out(what, 0, 1)) {
            return INVALID;
        }
        int[] best = null;
        for (int step = 1; step <= 19; step++) {
            State future = state.copy();
            future.rule = 1;
            future.step = step;
            int[] hidden = new int[20];
            for (int frame = 0; frame < 20; frame++) {
                for (Puppet p : future.order) {
                    hidden[p.number] += future.isHidden(p) ? 1 : 0;
                }
                future.makeFrame();
            }
            int greatest = Arrays.stream(hidden).max().getAsInt();
            if (best == null || greatest < best[1]) {
                best = new int[] {step, greatest};
            }
        }
        return best[what];
    }

    int worstLine() {
        int worst = NONE;
        for (int y = 47; y >= 0; y--) {
            int hidden = state.hidden(y).size();
            if (hidden > 0 && (worst == NONE || hidden >= state.hidden(worst).size())) {
                worst = y;
            }
        }
        return worst;
    }
}
