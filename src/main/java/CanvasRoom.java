import java.util.ArrayList;
import java.util.Arrays;

/** A drawing board that many hands share, whose views are sold in editions. */
public final class CanvasRoom {
    public static final int NONE = -1;
    public static final int UNSOLD = 0, SOLD = 1, CHANGED = 2, RETURNED = 3;

    private static final int COLUMNS = 24, ROWS = 16, COLOURS = 9;
    private static final int HANDS = 6, BUYERS = 8;
    private static final int MOST_SHAPES = 40, MOST_ACTS = 200, MOST_EDITIONS = 8;
    private static final int MOST_COPIES = 20, MOST_PRICE = 100000;
    /** Each call enters one payment at most, and nothing is promised after 512 calls. */
    private static final int MOST_PAYMENTS = 512;
    private static final int ROW_WORTH = 10000;
    private static final int HOUSE_DIVISOR = 10, RESALE_DIVISOR = 5;

    /** Kinds of acts. */
    private static final int ADD = 0, MOVE = 1, PAINT = 2, UP = 3, DOWN = 4, JOIN = 5, PART = 6, DROP = 7;

    private final ArrayList<Shape> addedShapes = new ArrayList<>();
    private final ArrayList<Act> toldActs = new ArrayList<>();
    private final ArrayList<Edition> frozenEditions = new ArrayList<>();
    private final ArrayList<Payment> payments = new ArrayList<>();
    private final Board board = new Board();
    /** The board on which acts are done anew; kept, so that asking makes no objects. */
    private final Board spareBoard = new Board();
    private long takenDown;
    private final int[] handMoney = new int[HANDS];
    /** The money that is told anew; kept, so that asking makes no objects. */
    private final int[] spareMoney = new int[HANDS];
    private final int[] buyerMoney = new int[BUYERS];
    private int houseMoney;

    public CanvasRoom() {
    }

    // ---- acts

    public int add(int hand, int column, int row, int width, int height, int colour)
            throws IndexOutOfBoundsException, IllegalArgumentException, IllegalStateException {
        checkHand(hand);
        checkRectangle(column, row, width, height);
        checkRange(colour, 1, COLOURS);
        if (addedShapes.size() >= MOST_SHAPES || toldActs.size() >= MOST_ACTS) {
            throw new IllegalStateException("no room for another shape or act");
        }
        int shape = addedShapes.size();
        addedShapes.add(new Shape(hand, column, row, width, height, colour));
        tell(new Act(hand, ADD, shape, NONE, NONE));
        return shape;
    }

    public int move(int hand, int shape, int columns, int rows)
            throws IndexOutOfBoundsException, IllegalArgumentException, IllegalStateException {
        checkHand(hand);
        checkShape(shape);
        checkRange(columns, -COLUMNS, COLUMNS);
        checkRange(rows, -ROWS, ROWS);
        checkCanAct(shape);
        tell(new Act(hand, MOVE, shape, columns, rows));
        return board.groupSize(shape);
    }

    public int paint(int hand, int shape, int colour)
            throws IndexOutOfBoundsException, IllegalArgumentException, IllegalStateException {
        checkHand(hand);
        checkShape(shape);
        checkRange(colour, 1, COLOURS);
        checkCanAct(shape);
        int before = board.colours[shape];
        tell(new Act(hand, PAINT, shape, colour, NONE));
        return before;
    }

    public int layer(int hand, int shape, boolean isUp) throws IndexOutOfBoundsException, IllegalStateException {
        checkHand(hand);
        checkShape(shape);
        checkCanAct(shape);
        tell(new Act(hand, isUp ? UP : DOWN, shape, NONE, NONE));
        return Long.bitCount(board.present);
    }

    public int join(int hand, int shape, int other)
            throws IndexOutOfBoundsException, IllegalArgumentException, IllegalStateException {
        checkHand(hand);
        checkShape(shape);
        checkShape(other);
        if (shape == other) {
            throw new IllegalArgumentException("a shape cannot be joined to itself");
        }
        checkCanAct(shape);
        checkCanAct(other);
        tell(new Act(hand, JOIN, shape, other, NONE));
        return board.groupSize(shape);
    }

    public int part(int hand, int shape) throws IndexOutOfBoundsException, IllegalStateException {
        checkHand(hand);
        checkShape(shape);
        checkCanAct(shape);
        int left = board.groupSize(shape) - 1;
        tell(new Act(hand, PART, shape, NONE, NONE));
        return left;
    }

    public int drop(int hand, int shape) throws IndexOutOfBoundsException, IllegalStateException {
        checkHand(hand);
        checkShape(shape);
        checkCanAct(shape);
        tell(new Act(hand, DROP, shape, NONE, NONE));
        return Long.bitCount(board.present);
    }

    public int undo(int hand) throws IndexOutOfBoundsException, IllegalStateException {
        checkHand(hand);
        int act = latestLiveAct(hand);
        if (act == NONE || lowestHolder(act) != NONE) {
            throw new IllegalStateException("no live act, or an edition holds it");
        }
        setLive(act, false);
        doAllActs(board);
        return act;
    }

    public int redo(int hand) throws IndexOutOfBoundsException, IllegalStateException {
        checkHand(hand);
        int act = actUndoneLast(hand);
        if (act == NONE) {
            throw new IllegalStateException("nothing to redo");
        }
        setLive(act, true);
        doAllActs(board);
        return act;
    }

    public int acts() {
        return toldActs.size();
    }

    public boolean isLive(int act) throws IndexOutOfBoundsException {
        return checkedAct(act).isLive;
    }

    public int holder(int act) throws IndexOutOfBoundsException {
        checkedAct(act);
        return lowestHolder(act);
    }

    // ---- the board

    public int shapes() {
        return addedShapes.size();
    }

    public long there() {
        return board.present;
    }

    public int place(int shape) throws IndexOutOfBoundsException, IllegalStateException {
        checkShape(shape);
        if (!board.has(shape)) {
            throw new IllegalStateException("the shape is not there");
        }
        return ROW_WORTH * board.rows[shape] + board.columns[shape];
    }

    public int colour(int shape) throws IndexOutOfBoundsException {
        checkShape(shape);
        return board.has(shape) ? board.colours[shape] : 0;
    }

    public int above(int shape) throws IndexOutOfBoundsException {
        checkShape(shape);
        return board.has(shape) ? board.countBelow(shape) : NONE;
    }

    public long group(int shape) throws IndexOutOfBoundsException {
        checkShape(shape);
        return board.has(shape) ? board.groups[shape] : 0L;
    }

    public int seen(int column, int row) throws IndexOutOfBoundsException {
        checkCell(column, row, COLUMNS, ROWS);
        return board.uppermostAt(column, row, takenDown);
    }

    public int seenAnew(int column, int row) throws IndexOutOfBoundsException {
        checkCell(column, row, COLUMNS, ROWS);
        doAllActs(spareBoard);
        return spareBoard.uppermostAt(column, row, takenDown);
    }

    // ---- editions

    public int freeze(int hand, int column, int row, int width, int height, int copies, int price)
            throws IndexOutOfBoundsException, IllegalArgumentException, IllegalStateException {
        checkHand(hand);
        checkRectangle(column, row, width, height);
        checkRange(copies, 1, MOST_COPIES);
        checkRange(price, 0, MOST_PRICE);
        Window window = new Window(column, row, width, height);
        if (frozenEditions.size() >= MOST_EDITIONS || !window.isAnyShown(board, takenDown)) {
            throw new IllegalStateException("no shape is seen, or no room for another edition");
        }
        Edition edition = new Edition(hand, window, price);
        edition.issue(copies);
        edition.kept.copy(board);
        measureAndHold(edition);
        frozenEditions.add(edition);
        return frozenEditions.size() - 1;
    }

    public int withdraw(int edition) throws IndexOutOfBoundsException, IllegalStateException {
        Edition withdrawn = checkedEdition(edition);
        if (withdrawn.isWithdrawn || withdrawn.soldCopies > 0) {
            throw new IllegalStateException("withdrawn already, or a copy was sold");
        }
        int held = withdrawn.countHeld();
        withdrawn.isWithdrawn = true;
        return held;
    }

    public int viewed(int edition, int column, int row) throws IndexOutOfBoundsException {
        Edition asked = checkedEdition(edition);
        Window window = asked.window;
        checkCell(column, row, window.width, window.height);
        int shape = asked.kept.uppermostAt(window.column + column, window.row + row, takenDown);
        return shape == NONE ? 0 : asked.kept.colours[shape];
    }

    public int area(int edition, int hand) throws IndexOutOfBoundsException {
        Edition asked = checkedEdition(edition);
        checkHand(hand);
        return asked.areas[hand];
    }

    // ---- copies and money

    public int sell(int edition, int buyer) throws IndexOutOfBoundsException, IllegalStateException {
        Edition sold = checkedEdition(edition);
        checkBuyer(buyer);
        // No copy ever becomes UNSOLD again: those below the lowest UNSOLD one are just those that were sold.
        int number = sold.soldCopies;
        if (sold.isWithdrawn || number >= sold.copies.size()) {
            throw new IllegalStateException("withdrawn, or no copy is left");
        }
        int forHouse = sold.price / HOUSE_DIVISOR;
        sold.copies.get(number).passTo(buyer, sold.price);
        sold.soldCopies++;
        buyerMoney[buyer] -= sold.price;
        houseMoney += forHouse;
        enter(new Payment(edition, NONE, sold.price - forHouse));
        return number;
    }

    public int resell(int edition, int copy, int buyer, int price)
            throws IndexOutOfBoundsException, IllegalArgumentException, IllegalStateException {
        Copy resold = checkedCopy(edition, copy);
        checkBuyer(buyer);
        checkRange(price, 0, MOST_PRICE);
        if (resold.state != SOLD || resold.owner == buyer) {
            throw new IllegalStateException("the copy is not SOLD, or the buyer owns it");
        }
        int shared = price / RESALE_DIVISOR;
        payBuyer(resold.owner, price - shared);
        payBuyer(buyer, -price);
        resold.passTo(buyer, price);
        enter(new Payment(edition, NONE, shared));
        return shared;
    }

    public int takeDown(int shape) throws IndexOutOfBoundsException, IllegalStateException {
        checkShape(shape);
        if (isTakenDown(shape)) {
            throw new IllegalStateException("taken down already");
        }
        int maker = addedShapes.get(shape).maker;
        int changed = 0;
        for (int k = 0; k < frozenEditions.size(); k++) {
            Edition edition = frozenEditions.get(k);
            if (edition.window.countShown(edition.kept, shape, takenDown) > 0) {
                changed += edition.changeSoldCopies(maker);
            }
        }
        takenDown |= bit(shape);
        return changed;
    }

    public int accept(int edition, int copy) throws IndexOutOfBoundsException, IllegalStateException {
        Copy accepted = checkedChangedCopy(edition, copy);
        accepted.state = SOLD;
        return accepted.owner;
    }

    public int giveBack(int edition, int copy) throws IndexOutOfBoundsException, IllegalStateException {
        Copy returned = checkedChangedCopy(edition, copy);
        int cost = returned.cost;
        payBuyer(returned.owner, cost);
        enter(new Payment(NONE, returned.answerer, -cost));
        returned.state = RETURNED;
        returned.owner = NONE;
        return cost;
    }

    public int copyState(int edition, int copy) throws IndexOutOfBoundsException {
        return checkedCopy(edition, copy).state;
    }

    public int owner(int edition, int copy) throws IndexOutOfBoundsException {
        return checkedCopy(edition, copy).owner;
    }

    public int money(int hand) throws IndexOutOfBoundsException {
        checkHand(hand);
        return handMoney[hand];
    }

    public int moneyAnew(int hand) throws IndexOutOfBoundsException {
        checkHand(hand);
        Arrays.fill(spareMoney, 0);
        for (int k = 0; k < payments.size(); k++) {
            payHands(payments.get(k), spareMoney);
        }
        return spareMoney[hand];
    }

    public int purse(int buyer) throws IndexOutOfBoundsException {
        checkBuyer(buyer);
        return buyerMoney[buyer];
    }

    public int house() {
        return houseMoney;
    }

    // ---- what calls ask of their arguments

    private static void checkHand(int hand) {
        if (hand < 0 || hand >= HANDS) {
            throw new IndexOutOfBoundsException("no such hand");
        }
    }

    private static void checkBuyer(int buyer) {
        if (buyer < 0 || buyer >= BUYERS) {
            throw new IndexOutOfBoundsException("no such buyer");
        }
    }

    private static void checkCell(int column, int row, int width, int height) {
        if (column < 0 || column >= width || row < 0 || row >= height) {
            throw new IndexOutOfBoundsException("no such cell");
        }
    }

    private static void checkRange(int value, int least, int most) {
        if (value < least || value > most) {
            throw new IllegalArgumentException("out of range");
        }
    }

    private static void checkRectangle(int column, int row, int width, int height) {
        checkRange(column, 0, COLUMNS - 1);
        checkRange(row, 0, ROWS - 1);
        checkRange(width, 1, COLUMNS - column);
        checkRange(height, 1, ROWS - row);
    }

    private void checkShape(int shape) {
        if (!isShape(shape)) {
            throw new IndexOutOfBoundsException("no such shape");
        }
    }

    private void checkCanAct(int shape) {
        if (!board.has(shape) || isTakenDown(shape) || toldActs.size() >= MOST_ACTS) {
            throw new IllegalStateException("not there, taken down, or no room for another act");
        }
    }

    private Act checkedAct(int act) {
        if (act < 0 || act >= toldActs.size()) {
            throw new IndexOutOfBoundsException("no such act");
        }
        return toldActs.get(act);
    }

    private Edition checkedEdition(int edition) {
        if (!isEdition(edition)) {
            throw new IndexOutOfBoundsException("no such edition");
        }
        return frozenEditions.get(edition);
    }

    private Copy checkedCopy(int edition, int copy) {
        ArrayList<Copy> copies = checkedEdition(edition).copies;
        if (copy < 0 || copy >= copies.size()) {
            throw new IndexOutOfBoundsException("no such copy");
        }
        return copies.get(copy);
    }

    private Copy checkedChangedCopy(int edition, int copy) {
        Copy changed = checkedCopy(edition, copy);
        if (changed.state != CHANGED) {
            throw new IllegalStateException("the copy is not CHANGED");
        }
        return changed;
    }

    private boolean isShape(int shape) {
        return shape >= 0 && shape < addedShapes.size();
    }

    private boolean isEdition(int edition) {
        return edition >= 0 && edition < frozenEditions.size();
    }

    private boolean isTakenDown(int shape) {
        return (takenDown & bit(shape)) != 0;
    }

    private static long bit(int shape) {
        return 1L << shape;
    }

    /** The columns from the first on, as a set: bit k for the column k. */
    private static int columnSet(int first, int width) {
        return ((1 << width) - 1) << first;
    }

    // ---- telling, undoing and doing acts

    private void tell(Act act) {
        for (int k = 0; k < toldActs.size(); k++) {
            Act earlier = toldActs.get(k);
            if (earlier.hand == act.hand) {
                earlier.isRedoable = false;
            }
        }
        toldActs.add(act);
        perform(act, board);
    }

    private void doAllActs(Board anew) {
        anew.clear();
        for (int k = 0; k < toldActs.size(); k++) {
            Act act = toldActs.get(k);
            if (act.isLive) {
                perform(act, anew);
            }
        }
    }

    private void perform(Act act, Board on) {
        if (act.kind != ADD) {
            on.change(act);
        } else if (isShape(act.shape)) {
            on.put(act.shape, addedShapes.get(act.shape));
        }
    }

    private int latestLiveAct(int hand) {
        for (int k = toldActs.size() - 1; k >= 0; k--) {
            Act act = toldActs.get(k);
            if (act.hand == hand && act.isLive) {
                return k;
            }
        }
        return NONE;
    }

    /** A hand undoes its acts from the highest down: the one undone last is the lowest redoable one. */
    private int actUndoneLast(int hand) {
        for (int k = 0; k < toldActs.size(); k++) {
            Act act = toldActs.get(k);
            if (act.hand == hand && act.isRedoable) {
                return k;
            }
        }
        return NONE;
    }

    private void setLive(int number, boolean isLive) {
        if (number >= 0 && number < toldActs.size()) {
            Act act = toldActs.get(number);
            act.isLive = isLive;
            act.isRedoable = !isLive;
        }
    }

    private int lowestHolder(int act) {
        for (int k = 0; k < frozenEditions.size(); k++) {
            if (frozenEditions.get(k).isHolding(act)) {
                return k;
            }
        }
        return NONE;
    }

    // ---- freezing

    private void measureAndHold(Edition edition) {
        for (int shape = 0; shape < addedShapes.size(); shape++) {
            int cells = edition.window.countShown(board, shape, takenDown);
            if (cells > 0) {
                edition.addArea(addedShapes.get(shape).maker, cells);
                holdActsOf(shape, edition);
            }
        }
    }

    private void holdActsOf(int shape, Edition edition) {
        for (int k = 0; k < toldActs.size(); k++) {
            Act act = toldActs.get(k);
            if (act.isLive && act.isNaming(shape)) {
                edition.hold(k);
            }
        }
    }

    // ---- paying

    private void payBuyer(int buyer, int amount) {
        if (buyer >= 0 && buyer < BUYERS) {
            buyerMoney[buyer] += amount;
        }
    }

    private void enter(Payment payment) {
        payHands(payment, handMoney);
        if (payments.size() < MOST_PAYMENTS) {
            payments.add(payment);
        }
    }

    private void payHands(Payment payment, int[] purses) {
        if (isEdition(payment.edition)) {
            frozenEditions.get(payment.edition).share(payment.amount, purses);
        } else if (payment.hand >= 0 && payment.hand < purses.length) {
            purses[payment.hand] += payment.amount;
        }
    }

    /** What never changes of a shape, and how it is first. */
    private static final class Shape {
        final int maker;
        final int column;
        final int row;
        final int width;
        final int height;
        final int colour;

        Shape(int maker, int column, int row, int width, int height, int colour) {
            this.maker = maker;
            this.column = column;
            this.row = row;
            this.width = width;
            this.height = height;
            this.colour = colour;
        }
    }

    /** An act: a MOVE has columns and rows as its numbers, a PAINT the colour, a JOIN the other shape. */
    private static final class Act {
        final int hand;
        final int kind;
        final int shape;
        final int first;
        final int second;
        boolean isLive = true;
        /** An act that its hand can neither undo nor redo any more is neither live nor this. */
        boolean isRedoable;

        Act(int hand, int kind, int shape, int first, int second) {
            this.hand = hand;
            this.kind = kind;
            this.shape = shape;
            this.first = first;
            this.second = second;
        }

        boolean isNaming(int named) {
            return shape == named || (kind == JOIN && first == named);
        }
    }

    /** The shapes that are there, with their places, colours, layers and groups. */
    private static final class Board {
        final int[] columns = new int[MOST_SHAPES];
        final int[] rows = new int[MOST_SHAPES];
        final int[] widths = new int[MOST_SHAPES];
        final int[] heights = new int[MOST_SHAPES];
        final int[] colours = new int[MOST_SHAPES];
        final int[] layers = new int[MOST_SHAPES];
        final long[] groups = new long[MOST_SHAPES];
        long present;
        int highestLayer;
        int lowestLayer;

        void clear() {
            present = 0L;
            highestLayer = 0;
            lowestLayer = 0;
        }

        /** Groups are left out, as nothing that is frozen moves. */
        void copy(Board from) {
            System.arraycopy(from.columns, 0, columns, 0, MOST_SHAPES);
            System.arraycopy(from.rows, 0, rows, 0, MOST_SHAPES);
            System.arraycopy(from.widths, 0, widths, 0, MOST_SHAPES);
            System.arraycopy(from.heights, 0, heights, 0, MOST_SHAPES);
            System.arraycopy(from.colours, 0, colours, 0, MOST_SHAPES);
            System.arraycopy(from.layers, 0, layers, 0, MOST_SHAPES);
            present = from.present;
        }

        boolean has(int shape) {
            return shape >= 0 && shape < MOST_SHAPES && (present & bit(shape)) != 0;
        }

        int groupSize(int shape) {
            return has(shape) ? Long.bitCount(groups[shape]) : 0;
        }

        int countBelow(int shape) {
            int below = 0;
            for (int k = 0; k < MOST_SHAPES; k++) {
                if (has(k) && layers[k] < layers[shape]) {
                    below++;
                }
            }
            return below;
        }

        void put(int number, Shape shape) {
            if (number < 0 || number >= MOST_SHAPES) {
                return;
            }
            columns[number] = shape.column;
            rows[number] = shape.row;
            widths[number] = shape.width;
            heights[number] = shape.height;
            colours[number] = shape.colour;
            layers[number] = ++highestLayer;
            groups[number] = bit(number);
            present |= bit(number);
        }

        void change(Act act) {
            int shape = act.shape;
            if (!has(shape)) {
                return;
            }
            switch (act.kind) {
                case MOVE:
                    moveGroup(groups[shape], act.first, act.second);
                    break;
                case PAINT:
                    colours[shape] = act.first;
                    break;
                case UP:
                    layers[shape] = ++highestLayer;
                    break;
                case DOWN:
                    layers[shape] = --lowestLayer;
                    break;
                case JOIN:
                    uniteGroups(shape, act.first);
                    break;
                case PART:
                    leaveGroup(shape);
                    break;
                case DROP:
                    leaveGroup(shape);
                    present &= ~bit(shape);
                    break;
                default:
                    break;
            }
        }

        private void moveGroup(long members, int byColumns, int byRows) {
            for (int k = 0; k < MOST_SHAPES; k++) {
                if ((members & bit(k)) != 0) {
                    columns[k] += byColumns;
                    rows[k] += byRows;
                }
            }
        }

        private void uniteGroups(int shape, int other) {
            if (has(shape) && has(other)) {
                setGroup(groups[shape] | groups[other]);
            }
        }

        private void leaveGroup(int shape) {
            setGroup(groups[shape] & ~bit(shape));
            groups[shape] = bit(shape);
        }

        private void setGroup(long members) {
            for (int k = 0; k < MOST_SHAPES; k++) {
                if ((members & bit(k)) != 0) {
                    groups[k] = members;
                }
            }
        }

        private boolean isShowing(int shape, long hidden) {
            return has(shape) && (hidden & bit(shape)) == 0;
        }

        int uppermostAt(int column, int row, long hidden) {
            int uppermost = NONE;
            for (int k = 0; k < MOST_SHAPES; k++) {
                if (isShowing(k, hidden) && isCovering(k, column, row)
                        && (uppermost == NONE || layers[k] > layers[uppermost])) {
                    uppermost = k;
                }
            }
            return uppermost;
        }

        private boolean isCovering(int shape, int column, int row) {
            return column >= columns[shape] && column < columns[shape] + widths[shape]
                    && row >= rows[shape] && row < rows[shape] + heights[shape];
        }

        /** The columns of the board in which a row shows a shape, as a set: bit k for the column k. */
        int columnsShown(int shape, int row, long hidden) {
            if (!isShowing(shape, hidden)) {
                return 0;
            }
            int shown = columnsCovered(shape, row);
            for (int k = 0; k < MOST_SHAPES && shown != 0; k++) {
                if (isShowing(k, hidden) && layers[k] > layers[shape]) {
                    shown &= ~columnsCovered(k, row);
                }
            }
            return shown;
        }

        private int columnsCovered(int shape, int row) {
            if (row < rows[shape] || row >= rows[shape] + heights[shape]) {
                return 0;
            }
            int from = Math.max(columns[shape], 0);
            int to = Math.min(columns[shape] + widths[shape], COLUMNS);
            return from < to ? columnSet(from, to - from) : 0;
        }
    }

    /** Some columns and rows of the board. */
    private static final class Window {
        final int column;
        final int row;
        final int width;
        final int height;

        Window(int column, int row, int width, int height) {
            this.column = column;
            this.row = row;
            this.width = width;
            this.height = height;
        }

        int countShown(Board board, int shape, long hidden) {
            int columns = columnSet(column, width);
            int cells = 0;
            for (int k = row; k < row + height; k++) {
                cells += Integer.bitCount(columns & board.columnsShown(shape, k, hidden));
            }
            return cells;
        }

        boolean isAnyShown(Board board, long hidden) {
            for (int k = 0; k < MOST_SHAPES; k++) {
                if (countShown(board, k, hidden) > 0) {
                    return true;
                }
            }
            return false;
        }
    }

    /** A view that is kept for good, the acts that it holds, and its copies. */
    private static final class Edition {
        final int freezer;
        final Window window;
        final int price;
        final Board kept = new Board();
        final int[] areas = new int[HANDS];
        int wholeArea;
        private final boolean[] held = new boolean[MOST_ACTS];
        boolean isWithdrawn;
        final ArrayList<Copy> copies = new ArrayList<>();
        int soldCopies;

        Edition(int freezer, Window window, int price) {
            this.freezer = freezer;
            this.window = window;
            this.price = price;
        }

        void issue(int count) {
            for (int k = 0; k < count && k < MOST_COPIES; k++) {
                copies.add(new Copy());
            }
        }

        void addArea(int hand, int cells) {
            if (hand >= 0 && hand < HANDS) {
                areas[hand] += cells;
                wholeArea += cells;
            }
        }

        void hold(int act) {
            if (act >= 0 && act < MOST_ACTS) {
                held[act] = true;
            }
        }

        boolean isHolding(int act) {
            return !isWithdrawn && act >= 0 && act < MOST_ACTS && held[act];
        }

        int countHeld() {
            int count = 0;
            for (int k = 0; k < MOST_ACTS; k++) {
                if (isHolding(k)) {
                    count++;
                }
            }
            return count;
        }

        int changeSoldCopies(int maker) {
            int changed = 0;
            for (int k = 0; k < copies.size(); k++) {
                Copy copy = copies.get(k);
                if (copy.state == SOLD) {
                    copy.state = CHANGED;
                    copy.answerer = maker;
                    changed++;
                }
            }
            return changed;
        }

        /** Prices and areas are small enough that their product is an int. */
        void share(int amount, int[] purses) {
            int left = amount;
            for (int hand = 0; hand < HANDS && hand < purses.length; hand++) {
                int part = wholeArea > 0 ? amount * areas[hand] / wholeArea : 0;
                purses[hand] += part;
                left -= part;
            }
            if (freezer >= 0 && freezer < purses.length) {
                purses[freezer] += left;
            }
        }
    }

    /** One copy of an edition. */
    private static final class Copy {
        int state = UNSOLD;
        int owner = NONE;
        int cost;
        int answerer = NONE;

        void passTo(int buyer, int price) {
            state = SOLD;
            owner = buyer;
            cost = price;
        }
    }

    /** An amount that is shared by an edition's areas, or, without an edition, what one hand gets. */
    private static final class Payment {
        final int edition;
        final int hand;
        final int amount;

        Payment(int edition, int hand, int amount) {
            this.edition = edition;
            this.hand = hand;
            this.amount = amount;
        }
    }
}
