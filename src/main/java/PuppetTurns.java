/**
 * A stage of lines on which each line shows a few puppets at most, with frames, forecasts and plays.
 * What each method answers is said in DOC.md, promise by promise.
 */
public final class PuppetTurns {
    public static final int INVALID_ARGUMENT = -101;
    public static final int ILLEGAL_STATE = -102;
    public static final int CAPACITY_EXCEEDED = -103;
    public static final int NONE = -109;

    private static final int COLUMNS = 64;
    private static final int LINES = 48;
    private static final int LEAST_PLACE = -15;

    private static final int PICTURES = 8;
    private static final int PICTURE_ROWS = 8;
    private static final int MOST_DOTS = 255;

    private static final int PUPPETS = 20;
    private static final int PUPPET_WIDTH = 8;
    private static final int LOW_HEIGHT = 8;
    private static final int TALL_HEIGHT = 16;
    private static final int MOST_COLOR = 9;
    private static final int LEFT_AND_RIGHT = 1;
    private static final int TOP_AND_BOTTOM = 2;
    private static final int MOST_FLIPS = 3;

    private static final int MOST_LIMIT = 8;
    private static final int RULE_ROTATE = 1;
    private static final int RULE_HIDDEN_FIRST = 2;
    private static final int MOST_STEP = 19;
    private static final int MOST_FRAMES = 9999;
    // Forecasts go on behind the frame 9999, by some frames.
    private static final int UNLIMITED_FRAMES = 1000000;
    private static final int FORECAST_FRAMES = 60;
    private static final int STEP_FRAMES = 20;

    private static final int HISTORY_SIZE = 5;
    private static final int TEXT_SIZE = 100;
    private static final int MOST_DIGITS = 3;
    private static final int MOST_TIMES = 9;
    private static final int MOST_GROUPS = 4;
    private static final int MOST_ACTS = 200;
    private static final int PLACE_OF_FAILURE = -1000;

    // What is kept of each puppet; the first six are in the order of puppet()'s numbers.
    private static final int X = 0;
    private static final int Y = 1;
    private static final int TALL = 2;
    private static final int PICTURE = 3;
    private static final int COLOR = 4;
    private static final int FLIPS = 5;
    private static final int HEIGHT = 6;
    private static final int HIDDEN_FRAMES = 7;
    private static final int ON_END = 8;
    private static final int MOST_ON_END = 9;
    private static final int PROPERTIES = 10;

    // What is kept of each step of a play.
    private static final int SIGN = 0;
    private static final int PLACE = 1;
    private static final int DEPTH = 2;
    private static final int FIRST = 3;
    private static final int SECOND = 4;
    private static final int THIRD = 5;
    private static final int STEP_PARTS = 6;

    private static final int KIND_READING = 1;
    private static final int KIND_CALL = 2;
    private static final int KIND_TOO_MANY = 3;

    private final Scene scene = new Scene();
    private final Scene before = new Scene();
    private final Survey survey = new Survey();
    private final Sight sight = new Sight();
    private final Forecast forecast = new Forecast();
    private final History history = new History();
    private final Reader reader = new Reader();
    private final Schedule schedule = new Schedule();
    private final Failure latest = new Failure();

    public PuppetTurns() {
    }

    // ---- pictures and puppets

    public int setRow(int picture, int row, int dots) {
        before.copyFrom(scene);
        return recorded(scene.redraw(picture, row, dots));
    }

    public int come(int x, int y, int tall, int picture, int color) {
        before.copyFrom(scene);
        return recorded(scene.admit(x, y, tall, picture, color));
    }

    public int leave(int puppet) {
        before.copyFrom(scene);
        return recorded(scene.dismiss(puppet));
    }

    public int move(int puppet, int x, int y) {
        before.copyFrom(scene);
        return recorded(scene.relocate(puppet, x, y));
    }

    public int turn(int puppet, int flips) {
        before.copyFrom(scene);
        return recorded(scene.flip(puppet, flips));
    }

    public int lift(int puppet) {
        before.copyFrom(scene);
        return recorded(scene.putFirst(puppet));
    }

    public int lower(int puppet) {
        before.copyFrom(scene);
        return recorded(scene.putLast(puppet));
    }

    // ---- frames

    public int setLimit(int limit) {
        before.copyFrom(scene);
        return recorded(scene.changeLimit(limit));
    }

    public int setRule(int rule, int step) {
        before.copyFrom(scene);
        return recorded(scene.changeRule(rule, step));
    }

    public int frame() {
        before.copyFrom(scene);
        return recorded(scene.makeFrame(survey, MOST_FRAMES));
    }

    public int undo() {
        if (history.size == 0) {
            return ILLEGAL_STATE;
        }
        history.restore(scene);
        return history.size;
    }

    // ---- plays

    public int append(int character) {
        return reader.script.add(character);
    }

    public int clearText() {
        int length = reader.script.length;
        reader.script.length = 0;
        return length;
    }

    public int run() {
        if (!reader.read()) {
            latest.set(KIND_READING, reader.fault, reader.depth + 1, 0, NONE);
            return PLACE_OF_FAILURE - reader.fault;
        }
        schedule.unroll(reader.steps);
        if (schedule.excess >= 0) {
            return failedAt(schedule.excess, KIND_TOO_MANY, 0, NONE);
        }
        return performAll();
    }

    public int failure(int what) {
        if (!within(what, 0, 4)) {
            return INVALID_ARGUMENT;
        }
        return latest.part(what);
    }

    // ---- looking

    public int count(int what) {
        switch (what) {
            case 0:
                return scene.there;
            case 1:
                return scene.arrived;
            case 2:
                return scene.limit;
            case 3:
                return scene.rule;
            case 4:
                return scene.step;
            case 5:
                return scene.frames;
            case 6:
                survey.look(scene);
                return survey.hiddenPuppets();
            case 7:
                return sight.allDots(scene);
            case 8:
                return scene.hero();
            case 9:
                return history.size;
            case 10:
                return reader.script.length;
            default:
                return INVALID_ARGUMENT;
        }
    }

    public int puppet(int puppet, int what) {
        if (!scene.exists(puppet)) {
            return INVALID_ARGUMENT;
        }
        if (within(what, X, FLIPS)) {
            return scene.puppets.get(puppet, what);
        }
        switch (what) {
            case 6:
                return scene.position(puppet);
            case 7:
                return scene.linesOf(puppet);
            case 8:
                survey.look(scene);
                return survey.hiddenLines.get(puppet);
            case 9:
                return scene.puppets.get(puppet, HIDDEN_FRAMES);
            case 10:
                return scene.puppets.get(puppet, ON_END);
            case 11:
                return scene.puppets.get(puppet, MOST_ON_END);
            default:
                return INVALID_ARGUMENT;
        }
    }

    public int line(int y, int what) {
        if (!within(y, 0, LINES - 1)) {
            return INVALID_ARGUMENT;
        }
        switch (what) {
            case 0:
                survey.look(scene);
                return survey.standing.get(y);
            case 1:
                sight.look(scene, y);
                return sight.size;
            case 2:
                return sight.dotsOnLine(scene, y);
            default:
                return INVALID_ARGUMENT;
        }
    }

    public int shown(int y, int index) {
        if (!within(y, 0, LINES - 1) || index < 0) {
            return INVALID_ARGUMENT;
        }
        sight.look(scene, y);
        return index < sight.size ? sight.shownPuppets.get(index) : NONE;
    }

    public int dot(int x, int y) {
        if (!within(x, 0, COLUMNS - 1) || !within(y, 0, LINES - 1)) {
            return INVALID_ARGUMENT;
        }
        return sight.colorAt(scene, x, y);
    }

    public int clash(int what) {
        if (!within(what, 0, 3)) {
            return INVALID_ARGUMENT;
        }
        return what == 0 ? sight.allClashes(scene) : sight.firstClash(scene, what);
    }

    // ---- what could be, which changes nothing

    public int hiddenIn(int puppet, int frames) {
        if (!scene.exists(puppet) || !within(frames, 1, FORECAST_FRAMES)) {
            return INVALID_ARGUMENT;
        }
        return forecast.hiddenFrames(scene, puppet, frames);
    }

    public int allShownIn() {
        return forecast.framesUntilAllShown(scene);
    }

    public int bestStep(int what) {
        if (!within(what, 0, 1)) {
            return INVALID_ARGUMENT;
        }
        forecast.findStep(scene);
        return what == 0 ? forecast.step : forecast.greatest;
    }

    public int worstLine() {
        survey.look(scene);
        return survey.lineWithMostHidden(scene.limit);
    }

    // ---- what the methods above share

    private static boolean within(int value, int least, int most) {
        return value >= least && value <= most;
    }

    /** Every answer of an action that is not an error code is 0 or more. */
    private int recorded(int answer) {
        if (answer >= 0) {
            history.record(before);
        }
        return answer;
    }

    private int performAll() {
        before.copyFrom(scene);
        for (int done = 0; done < schedule.size; done++) {
            int act = schedule.acts.get(done);
            int answer = perform(act);
            if (answer < 0) {
                scene.copyFrom(before);
                return failedAt(act, KIND_CALL, done, answer);
            }
        }
        history.record(before);
        return schedule.size;
    }

    /** The acts of a play are not recorded one by one: the whole play is one action. */
    private int perform(int act) {
        Cells parts = reader.steps.parts;
        int first = parts.get(act, FIRST);
        int second = parts.get(act, SECOND);
        switch (parts.get(act, SIGN)) {
            case 'f':
                return scene.makeFrame(survey, MOST_FRAMES);
            case 'm':
                return scene.relocate(first, second, parts.get(act, THIRD));
            case 't':
                return scene.flip(first, second);
            case 'u':
                return scene.putFirst(first);
            case 'd':
                return scene.putLast(first);
            default:
                return scene.changeLimit(first);
        }
    }

    private int failedAt(int act, int kind, int done, int code) {
        int place = reader.steps.parts.get(act, PLACE);
        latest.set(kind, place, reader.steps.parts.get(act, DEPTH), done, code);
        return PLACE_OF_FAILURE - place;
    }

    /** Numbers, one or several in a row, of which no index is ever out of range: outside there are only zeros. */
    private static final class Cells {
        private final int[] cells;
        private final int width;

        Cells(int rows, int width) {
            this.cells = new int[Math.max(rows * width, 0)];
            this.width = width;
        }

        int get(int index) {
            return index >= 0 && index < cells.length ? cells[index] : 0;
        }

        int get(int row, int column) {
            int index = row * width + column;
            return index >= 0 && index < cells.length ? cells[index] : 0;
        }

        void set(int index, int value) {
            if (index >= 0 && index < cells.length) {
                cells[index] = value;
            }
        }

        void set(int row, int column, int value) {
            int index = row * width + column;
            if (index >= 0 && index < cells.length) {
                cells[index] = value;
            }
        }

        void add(int index, int more) {
            if (index >= 0 && index < cells.length) {
                cells[index] += more;
            }
        }

        void fill(int value) {
            for (int index = 0; index < cells.length; index++) {
                cells[index] = value;
            }
        }

        void copyFrom(Cells other) {
            System.arraycopy(other.cells, 0, cells, 0, Math.min(other.cells.length, cells.length));
        }
    }

    /** A state: all that undo() restores. */
    private static final class Scene {
        private final Cells pictures = new Cells(PICTURES, PICTURE_ROWS);
        private final Cells puppets = new Cells(PUPPETS, PROPERTIES);
        private final Cells order = new Cells(PUPPETS, 1);
        private int there = 0;
        private int arrived = 0;
        private int limit = MOST_LIMIT;
        private int rule = 0;
        private int step = 1;
        private int frames = 0;

        Scene() {
            pictures.fill(MOST_DOTS);
        }

        void copyFrom(Scene other) {
            pictures.copyFrom(other.pictures);
            puppets.copyFrom(other.puppets);
            order.copyFrom(other.order);
            there = other.there;
            arrived = other.arrived;
            limit = other.limit;
            rule = other.rule;
            step = other.step;
            frames = other.frames;
        }

        /** The position in the order, or -1 if there is no such puppet. */
        int position(int puppet) {
            for (int position = 0; position < there; position++) {
                if (order.get(position) == puppet) {
                    return position;
                }
            }
            return -1;
        }

        boolean exists(int puppet) {
            return position(puppet) >= 0;
        }

        int hero() {
            for (int puppet = 0; puppet < arrived; puppet++) {
                if (exists(puppet)) {
                    return puppet;
                }
            }
            return NONE;
        }

        int firstLine(int puppet) {
            return Math.max(puppets.get(puppet, Y), 0);
        }

        /** Above firstLine() if no line of the puppet is on the stage. */
        int lastLine(int puppet) {
            return Math.min(puppets.get(puppet, Y) + puppets.get(puppet, HEIGHT), LINES) - 1;
        }

        int linesOf(int puppet) {
            return Math.max(lastLine(puppet) - firstLine(puppet) + 1, 0);
        }

        boolean standsOn(int puppet, int y) {
            return within(y, firstLine(puppet), lastLine(puppet));
        }

        /** The puppet's dots on a line of the stage, column 0 in the highest bit. */
        long dotsOn(int puppet, int y) {
            int height = puppets.get(puppet, HEIGHT);
            int row = y - puppets.get(puppet, Y);
            if (!within(row, 0, height - 1)) {
                return 0L;
            }
            int flips = puppets.get(puppet, FLIPS);
            if ((flips & TOP_AND_BOTTOM) != 0) {
                row = height - 1 - row;
            }
            int picture = (puppets.get(puppet, PICTURE) + row / PICTURE_ROWS) % PICTURES;
            int dots = pictures.get(picture, row % PICTURE_ROWS);
            if ((flips & LEFT_AND_RIGHT) != 0) {
                dots = mirrored(dots);
            }
            return placed(dots, puppets.get(puppet, X));
        }

        private static int mirrored(int dots) {
            int result = 0;
            for (int dot = 0; dot < PUPPET_WIDTH; dot++) {
                result = (result << 1) | ((dots >> dot) & 1);
            }
            return result;
        }

        private static long placed(int dots, int x) {
            int shift = COLUMNS - PUPPET_WIDTH - x;
            // Java takes a shift modulo 64, which would bring dots left of the stage back on the right.
            if (shift >= COLUMNS) {
                return 0L;
            }
            return shift >= 0 ? (long) dots << shift : (long) (dots >> -shift);
        }

        int redraw(int picture, int row, int dots) {
            if (!within(picture, 0, PICTURES - 1) || !within(row, 0, PICTURE_ROWS - 1) || !within(dots, 0, MOST_DOTS)) {
                return INVALID_ARGUMENT;
            }
            int previous = pictures.get(picture, row);
            pictures.set(picture, row, dots);
            return previous;
        }

        private static boolean isPlace(int x, int y) {
            return within(x, LEAST_PLACE, COLUMNS - 1) && within(y, LEAST_PLACE, LINES - 1);
        }

        int admit(int x, int y, int tall, int picture, int color) {
            if (!isPlace(x, y) || !within(tall, 0, 1) || !within(picture, 0, PICTURES - 1)
                    || !within(color, 1, MOST_COLOR)) {
                return INVALID_ARGUMENT;
            }
            if (arrived >= PUPPETS) {
                return CAPACITY_EXCEEDED;
            }
            int puppet = arrived;
            arrived++;
            order.set(there, puppet);
            there++;
            puppets.set(puppet, X, x);
            puppets.set(puppet, Y, y);
            puppets.set(puppet, TALL, tall);
            puppets.set(puppet, HEIGHT, tall == 1 ? TALL_HEIGHT : LOW_HEIGHT);
            puppets.set(puppet, PICTURE, picture);
            puppets.set(puppet, COLOR, color);
            // What else is kept of it is 0 still, since a number is never used again, and undo() restores all.
            return puppet;
        }

        int dismiss(int puppet) {
            int position = putLast(puppet);
            if (position >= 0) {
                there--;
            }
            return position;
        }

        int relocate(int puppet, int x, int y) {
            if (!exists(puppet) || !isPlace(x, y)) {
                return INVALID_ARGUMENT;
            }
            puppets.set(puppet, X, x);
            puppets.set(puppet, Y, y);
            return linesOf(puppet);
        }

        int flip(int puppet, int flips) {
            if (!exists(puppet) || !within(flips, 0, MOST_FLIPS)) {
                return INVALID_ARGUMENT;
            }
            int previous = puppets.get(puppet, FLIPS);
            puppets.set(puppet, FLIPS, flips);
            return previous;
        }

        int putFirst(int puppet) {
            return putAt(puppet, 0);
        }

        int putLast(int puppet) {
            return putAt(puppet, there - 1);
        }

        private int putAt(int puppet, int to) {
            int from = position(puppet);
            if (from < 0) {
                return INVALID_ARGUMENT;
            }
            shiftInOrder(from, to);
            return from;
        }

        /** Takes a puppet out of the order and puts it in again elsewhere; the others close up. */
        private void shiftInOrder(int from, int to) {
            int puppet = order.get(from);
            for (int position = from; position < to; position++) {
                order.set(position, order.get(position + 1));
            }
            for (int position = from; position > to; position--) {
                order.set(position, order.get(position - 1));
            }
            order.set(to, puppet);
        }

        int changeLimit(int newLimit) {
            if (!within(newLimit, 1, MOST_LIMIT)) {
                return INVALID_ARGUMENT;
            }
            int previous = limit;
            limit = newLimit;
            return previous;
        }

        int changeRule(int newRule, int newStep) {
            if (!within(newRule, 0, RULE_HIDDEN_FIRST) || !within(newStep, 1, MOST_STEP)) {
                return INVALID_ARGUMENT;
            }
            int previous = rule;
            rule = newRule;
            step = newStep;
            return previous;
        }

        /** The survey tells of this frame then. */
        int makeFrame(Survey survey, int mostFrames) {
            if (frames >= mostFrames) {
                return CAPACITY_EXCEEDED;
            }
            survey.look(this);
            for (int position = 0; position < there; position++) {
                countHidden(order.get(position), survey);
            }
            if (rule == RULE_ROTATE) {
                rotate();
            } else if (rule == RULE_HIDDEN_FIRST) {
                bringHidden(survey);
            }
            frames++;
            return survey.hiddenPuppets();
        }

        private void countHidden(int puppet, Survey survey) {
            if (!survey.isHidden(puppet)) {
                puppets.set(puppet, ON_END, 0);
                return;
            }
            int onEnd = puppets.get(puppet, ON_END) + 1;
            puppets.set(puppet, ON_END, onEnd);
            puppets.set(puppet, MOST_ON_END, Math.max(puppets.get(puppet, MOST_ON_END), onEnd));
            puppets.set(puppet, HIDDEN_FRAMES, puppets.get(puppet, HIDDEN_FRAMES) + 1);
        }

        private void rotate() {
            // As many turns as there are puppets lead back to the same order.
            int turns = there > 0 ? step % there : 0;
            for (int turn = 0; turn < turns; turn++) {
                shiftInOrder(0, there - 1);
            }
        }

        private void bringHidden(Survey survey) {
            int front = 0;
            for (int position = 0; position < there; position++) {
                if (survey.isHidden(order.get(position))) {
                    shiftInOrder(position, front);
                    front++;
                }
            }
        }
    }

    /** How many puppets stand on each line, and on how many lines each is hidden, when last looked at. */
    private static final class Survey {
        private final Cells standing = new Cells(LINES, 1);
        private final Cells hiddenLines = new Cells(PUPPETS, 1);

        void look(Scene scene) {
            standing.fill(0);
            hiddenLines.fill(0);
            for (int position = 0; position < scene.there; position++) {
                int puppet = scene.order.get(position);
                int last = scene.lastLine(puppet);
                for (int y = scene.firstLine(puppet); y <= last; y++) {
                    if (standing.get(y) >= scene.limit) {
                        hiddenLines.add(puppet, 1);
                    }
                    standing.add(y, 1);
                }
            }
        }

        boolean isHidden(int puppet) {
            return hiddenLines.get(puppet) > 0;
        }

        int hiddenPuppets() {
            int hidden = 0;
            for (int puppet = 0; puppet < PUPPETS; puppet++) {
                if (isHidden(puppet)) {
                    hidden++;
                }
            }
            return hidden;
        }

        /** The hidden puppets as bits, the lowest one for puppet 0. */
        int hiddenBits() {
            int bits = 0;
            for (int puppet = 0; puppet < PUPPETS; puppet++) {
                if (isHidden(puppet)) {
                    bits |= 1 << puppet;
                }
            }
            return bits;
        }

        int lineWithMostHidden(int limit) {
            int most = limit;
            int worst = NONE;
            for (int y = 0; y < LINES; y++) {
                if (standing.get(y) > most) {
                    most = standing.get(y);
                    worst = y;
                }
            }
            return worst;
        }
    }

    /** The puppets that are shown on one line, and the dots of lines as bits, column 0 in the highest one. */
    private static final class Sight {
        private final Cells shownPuppets = new Cells(MOST_LIMIT, 1);
        private int size = 0;

        void look(Scene scene, int y) {
            size = 0;
            for (int position = 0; position < scene.there && size < scene.limit; position++) {
                int puppet = scene.order.get(position);
                if (scene.standsOn(puppet, y)) {
                    shownPuppets.set(size, puppet);
                    size++;
                }
            }
        }

        private static long bitOf(int x) {
            return 1L << (COLUMNS - 1 - x);
        }

        int colorAt(Scene scene, int x, int y) {
            look(scene, y);
            for (int index = 0; index < size; index++) {
                int puppet = shownPuppets.get(index);
                if ((scene.dotsOn(puppet, y) & bitOf(x)) != 0L) {
                    return scene.puppets.get(puppet, COLOR);
                }
            }
            return 0;
        }

        int dotsOnLine(Scene scene, int y) {
            look(scene, y);
            long dots = 0L;
            for (int index = 0; index < size; index++) {
                dots |= scene.dotsOn(shownPuppets.get(index), y);
            }
            return Long.bitCount(dots);
        }

        int allDots(Scene scene) {
            int dots = 0;
            for (int y = 0; y < LINES; y++) {
                dots += dotsOnLine(scene, y);
            }
            return dots;
        }

        private long clashesOn(Scene scene, int hero, int y) {
            look(scene, y);
            long ofHero = 0L;
            long ofOthers = 0L;
            for (int index = 0; index < size; index++) {
                int puppet = shownPuppets.get(index);
                if (puppet == hero) {
                    ofHero = scene.dotsOn(puppet, y);
                } else {
                    ofOthers |= scene.dotsOn(puppet, y);
                }
            }
            return ofHero & ofOthers;
        }

        int allClashes(Scene scene) {
            int hero = scene.hero();
            int clashes = 0;
            for (int y = 0; y < LINES; y++) {
                clashes += Long.bitCount(clashesOn(scene, hero, y));
            }
            return clashes;
        }

        /** The column (1), the line (2) or the other puppet (3) of the first clash, or NONE. */
        int firstClash(Scene scene, int what) {
            int hero = scene.hero();
            for (int y = 0; y < LINES; y++) {
                long clashes = clashesOn(scene, hero, y);
                if (clashes != 0L) {
                    int x = firstColumn(clashes);
                    return what == 1 ? x : what == 2 ? y : firstOther(scene, hero, x, y);
                }
            }
            return NONE;
        }

        private static int firstColumn(long dots) {
            int x = 0;
            while (x < COLUMNS - 1 && (dots & bitOf(x)) == 0L) {
                x++;
            }
            return x;
        }

        private int firstOther(Scene scene, int hero, int x, int y) {
            for (int index = 0; index < size; index++) {
                int puppet = shownPuppets.get(index);
                if (puppet != hero && (scene.dotsOn(puppet, y) & bitOf(x)) != 0L) {
                    return puppet;
                }
            }
            return NONE;
        }
    }

    /** Makes frames on a copy of the scene. */
    private static final class Forecast {
        private final Scene future = new Scene();
        private final Survey survey = new Survey();
        private final Cells hiddenByTurns = new Cells(PUPPETS, 1);
        private int step = 1;
        private int greatest = 0;

        private int hiddenSince(Scene scene, int puppet) {
            return future.puppets.get(puppet, HIDDEN_FRAMES) - scene.puppets.get(puppet, HIDDEN_FRAMES);
        }

        int hiddenFrames(Scene scene, int puppet, int frames) {
            future.copyFrom(scene);
            for (int frame = 0; frame < frames; frame++) {
                future.makeFrame(survey, UNLIMITED_FRAMES);
            }
            return hiddenSince(scene, puppet);
        }

        int framesUntilAllShown(Scene scene) {
            if (scene.there == 0) {
                return 0;
            }
            future.copyFrom(scene);
            for (int frames = 1; frames <= FORECAST_FRAMES; frames++) {
                future.makeFrame(survey, UNLIMITED_FRAMES);
                if (allShownWithin(scene, frames)) {
                    return frames;
                }
            }
            return NONE;
        }

        /** A puppet that was hidden in fewer frames than were made was shown on all its lines in one. */
        private boolean allShownWithin(Scene scene, int frames) {
            for (int position = 0; position < scene.there; position++) {
                if (hiddenSince(scene, scene.order.get(position)) >= frames) {
                    return false;
                }
            }
            return true;
        }

        void findStep(Scene scene) {
            noteHiddenByTurns(scene);
            step = 1;
            greatest = greatestWith(scene, 1);
            for (int other = 2; other <= MOST_STEP; other++) {
                int number = greatestWith(scene, other);
                if (number < greatest) {
                    step = other;
                    greatest = number;
                }
            }
        }

        /** By rule 1 every frame has the order of now after some turns, so each number of turns is looked at once. */
        private void noteHiddenByTurns(Scene scene) {
            future.copyFrom(scene);
            future.rule = RULE_ROTATE;
            future.step = 1;
            for (int turns = 0; turns < scene.there; turns++) {
                future.makeFrame(survey, UNLIMITED_FRAMES);
                hiddenByTurns.set(turns, survey.hiddenBits());
            }
        }

        private int greatestWith(Scene scene, int tried) {
            int result = 0;
            for (int position = 0; position < scene.there; position++) {
                result = Math.max(result, framesHidden(scene.order.get(position), tried, scene.there));
            }
            return result;
        }

        private int framesHidden(int puppet, int tried, int there) {
            int hidden = 0;
            for (int frame = 0; frame < STEP_FRAMES; frame++) {
                int turns = there > 0 ? frame * tried % there : 0;
                hidden += (hiddenByTurns.get(turns) >> puppet) & 1;
            }
            return hidden;
        }
    }

    /** The latest states, in slots that are used in turn so that nothing is made by a call. */
    private static final class History {
        private final Scene[] slots = new Scene[HISTORY_SIZE];
        private int newest = 0;
        private int size = 0;

        History() {
            for (int slot = 0; slot < slots.length; slot++) {
                slots[slot] = new Scene();
            }
        }

        private Scene newestSlot() {
            return newest >= 0 && newest < slots.length ? slots[newest] : null;
        }

        void record(Scene scene) {
            newest = (newest + 1) % HISTORY_SIZE;
            size = Math.min(size + 1, HISTORY_SIZE);
            Scene slot = newestSlot();
            if (slot != null) {
                slot.copyFrom(scene);
            }
        }

        void restore(Scene scene) {
            Scene slot = newestSlot();
            if (slot != null) {
                scene.copyFrom(slot);
            }
            newest = (newest + HISTORY_SIZE - 1) % HISTORY_SIZE;
            size--;
        }
    }

    /** The text. */
    private static final class Script {
        private final Cells characters = new Cells(TEXT_SIZE, 1);
        private int length = 0;

        int add(int character) {
            if (!within(character, 1, 255)) {
                return INVALID_ARGUMENT;
            }
            if (length >= TEXT_SIZE) {
                return CAPACITY_EXCEEDED;
            }
            characters.set(length, character);
            length++;
            return length;
        }

        /** No character is 0, so 0 tells the end of the text. */
        int at(int place) {
            return place < length ? characters.get(place) : 0;
        }
    }

    /** What a text says: its acts with letters and the brackets of its groups, in the order of the text. */
    private static final class Steps {
        // An act or a bracket takes at least one character.
        private final Cells parts = new Cells(TEXT_SIZE, STEP_PARTS);
        private int length = 0;

        int add(int sign, int place, int depth) {
            int step = length;
            length++;
            parts.set(step, SIGN, sign);
            parts.set(step, PLACE, place);
            parts.set(step, DEPTH, depth);
            return step;
        }
    }

    /** The text, and its reading into steps, up to its first fault. */
    private static final class Reader {
        private final Script script = new Script();
        private final Steps steps = new Steps();
        private final Cells opened = new Cells(MOST_GROUPS, 1);
        private int place = 0;
        private int depth = 0;
        private int fault = -1;

        boolean read() {
            steps.length = 0;
            place = 0;
            depth = 0;
            fault = -1;
            // What readNext() reads has at least one character, or there is a fault.
            for (int round = 0; round < TEXT_SIZE && place < script.length && fault < 0; round++) {
                readNext();
            }
            if (depth > 0) {
                fail(place);
            }
            return fault < 0;
        }

        /** Of several faults only the first one counts. */
        private void fail(int faulty) {
            if (fault < 0) {
                fault = faulty;
            }
        }

        private void readNext() {
            int character = script.at(place);
            if (isDigit(character)) {
                readRepeatedGroup();
            } else if (character == '(') {
                openGroup(1);
            } else if (character == ')') {
                closeGroup();
            } else {
                readAct(character);
            }
        }

        private static boolean isDigit(int character) {
            return within(character, '0', '9');
        }

        private void readRepeatedGroup() {
            int start = place;
            int times = readNumber(false);
            if (!within(times, 1, MOST_TIMES)) {
                fail(start);
            } else if (script.at(place) == '(') {
                openGroup(times);
            } else {
                fail(place);
            }
        }

        private void openGroup(int times) {
            if (depth >= MOST_GROUPS) {
                fail(place);
                return;
            }
            int step = steps.add('(', place, depth + 1);
            steps.parts.set(step, FIRST, times);
            opened.set(depth, step);
            depth++;
            place++;
        }

        private void closeGroup() {
            if (depth == 0) {
                fail(place);
                return;
            }
            depth--;
            int opening = opened.get(depth);
            // A group without acts is left out, since its many repetitions would do nothing.
            if (steps.length == opening + 1) {
                steps.length = opening;
            } else {
                int step = steps.add(')', place, depth + 1);
                steps.parts.set(step, FIRST, opening);
            }
            place++;
        }

        private void readAct(int letter) {
            int numbers = numbersOf(letter);
            if (numbers < 0) {
                fail(place);
                return;
            }
            int step = steps.add(letter, place, depth + 1);
            place++;
            for (int number = 0; number < numbers; number++) {
                if (number > 0) {
                    expect(',');
                }
                boolean ofPlace = letter == 'm' && number > 0;
                steps.parts.set(step, FIRST + number, readNumber(ofPlace));
            }
            expect(';');
        }

        /** How many numbers stand behind a letter, or -1 if no act has it. */
        private static int numbersOf(int letter) {
            switch (letter) {
                case 'f':
                    return 0;
                case 'u':
                case 'd':
                case 'l':
                    return 1;
                case 't':
                    return 2;
                case 'm':
                    return 3;
                default:
                    return -1;
            }
        }

        private void expect(int character) {
            if (script.at(place) == character) {
                place++;
            } else {
                fail(place);
            }
        }

        private int readNumber(boolean ofPlace) {
            int sign = 1;
            if (ofPlace && script.at(place) == '-') {
                sign = -1;
                place++;
            }
            int value = 0;
            int digits = 0;
            while (digits < MOST_DIGITS && isDigit(script.at(place)) && (digits == 0 || value > 0)) {
                value = value * 10 + script.at(place) - '0';
                digits++;
                place++;
            }
            if (digits == 0 || isDigit(script.at(place))) {
                fail(place);
            }
            return sign * value;
        }
    }

    /** The acts of a play in the order in which they are run, with the groups repeated. */
    private static final class Schedule {
        // Every group that is left holds an act, so that few brackets are passed between two acts.
        private static final int MOST_ROUNDS = 100000;

        private final Cells acts = new Cells(MOST_ACTS, 1);
        private final Cells timesLeft = new Cells(MOST_GROUPS, 1);
        private int size = 0;
        private int depth = 0;
        private int excess = -1;

        void unroll(Steps steps) {
            size = 0;
            depth = 0;
            excess = -1;
            int next = 0;
            for (int round = 0; round < MOST_ROUNDS && next < steps.length && excess < 0; round++) {
                next = take(steps, next);
            }
        }

        /** Answers which step comes behind this one. */
        private int take(Steps steps, int step) {
            switch (steps.parts.get(step, SIGN)) {
                case '(':
                    timesLeft.set(depth, steps.parts.get(step, FIRST));
                    depth++;
                    return step + 1;
                case ')':
                    return takeClosing(steps, step);
                default:
                    plan(step);
                    return step + 1;
            }
        }

        private int takeClosing(Steps steps, int step) {
            timesLeft.add(depth - 1, -1);
            if (timesLeft.get(depth - 1) > 0) {
                return steps.parts.get(step, FIRST) + 1;
            }
            depth--;
            return step + 1;
        }

        private void plan(int act) {
            if (size < MOST_ACTS) {
                acts.set(size, act);
                size++;
            } else {
                excess = act;
            }
        }
    }

    /** The latest failure of a play. */
    private static final class Failure {
        private boolean known = false;
        private int kind = 0;
        private int place = 0;
        private int depth = 0;
        private int acts = 0;
        private int code = NONE;

        void set(int newKind, int newPlace, int newDepth, int newActs, int newCode) {
            known = true;
            kind = newKind;
            place = newPlace;
            depth = newDepth;
            acts = newActs;
            code = newCode;
        }

        int part(int what) {
            if (!known) {
                return NONE;
            }
            switch (what) {
                case 0:
                    return kind;
                case 1:
                    return place;
                case 2:
                    return depth;
                case 3:
                    return acts;
                default:
                    return code;
            }
        }
    }
}
