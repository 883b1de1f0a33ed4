import java.util.ArrayDeque;
import java.util.ArrayList;
import java.util.Deque;
import java.util.HashSet;
import java.util.List;
import java.util.Set;
import java.util.TreeMap;

/** The document told once more, slowly and with the whole Java library, to compare CanvasRoom with. */
final class PlainRoom {
    private static final class Act {
        String kind;
        int hand;
        List<Integer> named = new ArrayList<>();
        int[] numbers;
        boolean live = true;
    }

    private static final class Figure {
        int column, row, width, height, colour;
    }

    /** The shapes that are there, from the lowest to the uppermost, and their groups. */
    private static final class Picture {
        List<Integer> order = new ArrayList<>();
        TreeMap<Integer, Figure> figures = new TreeMap<>();
        List<Set<Integer>> groups = new ArrayList<>();

        Set<Integer> groupOf(int shape) {
            for (Set<Integer> group : groups) {
                if (group.contains(shape)) {
                    return group;
                }
            }
            return new HashSet<>();
        }

        void leave(int shape) {
            groupOf(shape).remove(shape);
        }

        void alone(int shape) {
            Set<Integer> group = new HashSet<>();
            group.add(shape);
            groups.add(group);
        }
    }

    private static final class Sold {
        int state, owner = -1, cost, answerer = -1;
    }

    private static final class Frozen {
        int hand, column, row, width, height, price, sales;
        boolean withdrawn;
        Picture picture;
        int[] areas = new int[6];
        Set<Integer> held = new HashSet<>();
        List<Sold> copies = new ArrayList<>();
    }

    private final List<Act> acts = new ArrayList<>();
    private final List<Integer> makers = new ArrayList<>();
    private final List<Deque<Integer>> undone = new ArrayList<>();
    private final Set<Integer> down = new HashSet<>();
    private final List<Frozen> editions = new ArrayList<>();
    private final int[] hands = new int[6];
    private final int[] buyers = new int[8];
    private int house;

    PlainRoom() {
        for (int hand = 0; hand < 6; hand++) {
            undone.add(new ArrayDeque<>());
        }
    }

    private Picture picture() {
        Picture p = new Picture();
        for (Act act : acts) {
            if (act.live && (act.kind.equals("add") || p.figures.keySet().containsAll(act.named))) {
                perform(p, act);
            }
        }
        return p;
    }

    private static void perform(Picture p, Act act) {
        Integer shape = act.named.get(0);
        if (act.kind.equals("add")) {
            Figure f = new Figure();
            f.column = act.numbers[0];
            f.row = act.numbers[1];
            f.width = act.numbers[2];
            f.height = act.numbers[3];
            f.colour = act.numbers[4];
            p.figures.put(shape, f);
            p.order.add(shape);
            p.alone(shape);
        } else if (act.kind.equals("move")) {
            for (int k : p.groupOf(shape)) {
                p.figures.get(k).column += act.numbers[0];
                p.figures.get(k).row += act.numbers[1];
            }
        } else if (act.kind.equals("paint")) {
            p.figures.get(shape).colour = act.numbers[0];
        } else if (act.kind.equals("up")) {
            p.order.remove(shape);
            p.order.add(shape);
        } else if (act.kind.equals("down")) {
            p.order.remove(shape);
            p.order.add(0, shape);
        } else if (act.kind.equals("join")) {
            Set<Integer> one = p.groupOf(shape);
            Set<Integer> two = p.groupOf(act.named.get(1));
            if (one != two) {
                p.groups.remove(two);
                one.addAll(two);
            }
        } else if (act.kind.equals("part")) {
            p.leave(shape);
            p.alone(shape);
        } else {
            p.leave(shape);
            p.figures.remove(shape);
            p.order.remove(shape);
        }
    }

    private int shown(Picture p, int column, int row) {
        for (int k = p.order.size() - 1; k >= 0; k--) {
            int shape = p.order.get(k);
            Figure f = p.figures.get(shape);
            if (!down.contains(shape) && column - f.column >= 0 && column - f.column < f.width
                    && row - f.row >= 0 && row - f.row < f.height) {
                return shape;
            }
        }
        return -1;
    }

    private Set<Integer> shownShapes(Picture p, Frozen e) {
        Set<Integer> shapes = new HashSet<>();
        for (int c = 0; c < e.width; c++) {
            for (int r = 0; r < e.height; r++) {
                shapes.add(shown(p, e.column + c, e.row + r));
            }
        }
        shapes.remove(-1);
        return shapes;
    }

    private static void index(boolean isThere) {
        if (!isThere) {
            throw new IndexOutOfBoundsException();
        }
    }

    private static void argument(boolean isFine) {
        if (!isFine) {
            throw new IllegalArgumentException();
        }
    }

    private static void state(boolean isFine) {
        if (!isFine) {
            throw new IllegalStateException();
        }
    }

    private static boolean within(long value, long least, long most) {
        return least <= value && value <= most;
    }

    private static boolean rectangle(int column, int row, long width, long height) {
        return within(column, 0, 23) && within(row, 0, 15) && within(width, 1, 24) && within(height, 1, 16)
                && column + width <= 24 && row + height <= 16;
    }

    private void hand(int hand) {
        index(within(hand, 0, 5));
    }

    private void shape(int shape) {
        index(within(shape, 0, makers.size() - 1));
    }

    private void canAct(int shape) {
        state(acts.size() < 200 && picture().order.contains(shape) && !down.contains(shape));
    }

    private void tell(String kind, int hand, List<Integer> named, int... numbers) {
        Act act = new Act();
        act.kind = kind;
        act.hand = hand;
        act.named = named;
        act.numbers = numbers;
        acts.add(act);
        undone.get(hand).clear();
    }

    int add(int hand, int column, int row, int width, int height, int colour) {
        hand(hand);
        argument(rectangle(column, row, width, height) && within(colour, 1, 9));
        state(makers.size() < 40 && acts.size() < 200);
        makers.add(hand);
        tell("add", hand, List.of(makers.size() - 1), column, row, width, height, colour);
        return makers.size() - 1;
    }

    int move(int hand, int shape, int columns, int rows) {
        hand(hand);
        shape(shape);
        argument(within(columns, -24, 24) && within(rows, -16, 16));
        canAct(shape);
        tell("move", hand, List.of(shape), columns, rows);
        return picture().groupOf(shape).size();
    }

    int paint(int hand, int shape, int colour) {
        hand(hand);
        shape(shape);
        argument(within(colour, 1, 9));
        canAct(shape);
        int before = colour(shape);
        tell("paint", hand, List.of(shape), colour);
        return before;
    }

    int layer(int hand, int shape, boolean isUp) {
        hand(hand);
        shape(shape);
        canAct(shape);
        tell(isUp ? "up" : "down", hand, List.of(shape));
        return picture().order.size();
    }

    int join(int hand, int shape, int other) {
        hand(hand);
        shape(shape);
        shape(other);
        argument(shape != other);
        canAct(shape);
        canAct(other);
        tell("join", hand, List.of(shape, other));
        return picture().groupOf(shape).size();
    }

    int part(int hand, int shape) {
        hand(hand);
        shape(shape);
        canAct(shape);
        int size = picture().groupOf(shape).size();
        tell("part", hand, List.of(shape));
        return size - 1;
    }

    int drop(int hand, int shape) {
        hand(hand);
        shape(shape);
        canAct(shape);
        tell("drop", hand, List.of(shape));
        return picture().order.size();
    }

    int undo(int hand) {
        hand(hand);
        int latest = -1;
        for (int k = 0; k < acts.size(); k++) {
            if (acts.get(k).hand == hand && acts.get(k).live) {
                latest = k;
            }
        }
        state(latest >= 0 && holder(latest) < 0);
        acts.get(latest).live = false;
        undone.get(hand).push(latest);
        return latest;
    }

    int redo(int hand) {
        hand(hand);
        state(!undone.get(hand).isEmpty());
        int act = undone.get(hand).pop();
        acts.get(act).live = true;
        return act;
    }

    int acts() {
        return acts.size();
    }

    boolean isLive(int act) {
        index(within(act, 0, acts.size() - 1));
        return acts.get(act).live;
    }

    int holder(int act) {
        index(within(act, 0, acts.size() - 1));
        for (int e = 0; e < editions.size(); e++) {
            if (editions.get(e).held.contains(act) && !editions.get(e).withdrawn) {
                return e;
            }
        }
        return -1;
    }

    int shapes() {
        return makers.size();
    }

    private static long set(Iterable<Integer> shapes) {
        long set = 0;
        for (int shape : shapes) {
            set += 1L << shape;
        }
        return set;
    }

    long there() {
        return set(picture().order);
    }

    int place(int shape) {
        shape(shape);
        Figure f = picture().figures.get(shape);
        state(f != null);
        return 10000 * f.row + f.column;
    }

    int colour(int shape) {
        shape(shape);
        Figure f = picture().figures.get(shape);
        return f == null ? 0 : f.colour;
    }

    int above(int shape) {
        shape(shape);
        return picture().order.indexOf(shape);
    }

    long group(int shape) {
        shape(shape);
        return set(picture().groupOf(shape));
    }

    int seen(int column, int row) {
        index(within(column, 0, 23) && within(row, 0, 15));
        return shown(picture(), column, row);
    }

    int seenAnew(int column, int row) {
        return seen(column, row);
    }

    int freeze(int hand, int column, int row, int width, int height, int copies, int price) {
        hand(hand);
        argument(rectangle(column, row, width, height) && within(copies, 1, 20) && within(price, 0, 100000));
        Frozen e = new Frozen();
        e.hand = hand;
        e.column = column;
        e.row = row;
        e.width = width;
        e.height = height;
        e.price = price;
        e.picture = picture();
        Set<Integer> shapes = shownShapes(e.picture, e);
        state(editions.size() < 8 && !shapes.isEmpty());
        for (int k = 0; k < copies; k++) {
            e.copies.add(new Sold());
        }
        for (int c = column; c < column + width; c++) {
            for (int r = row; r < row + height; r++) {
                int shape = shown(e.picture, c, r);
                if (shape >= 0) {
                    e.areas[makers.get(shape)]++;
                }
            }
        }
        for (int k = 0; k < acts.size(); k++) {
            if (acts.get(k).live && acts.get(k).named.stream().anyMatch(shapes::contains)) {
                e.held.add(k);
            }
        }
        editions.add(e);
        return editions.size() - 1;
    }

    int editions() {
        return editions.size();
    }

    private Frozen edition(int edition) {
        index(within(edition, 0, editions.size() - 1));
        return editions.get(edition);
    }

    private Sold copy(int edition, int copy) {
        index(within(copy, 0, edition(edition).copies.size() - 1));
        return editions.get(edition).copies.get(copy);
    }

    int withdraw(int edition) {
        Frozen e = edition(edition);
        state(!e.withdrawn && e.sales == 0);
        e.withdrawn = true;
        return e.held.size();
    }

    int viewed(int edition, int column, int row) {
        Frozen e = edition(edition);
        index(within(column, 0, e.width - 1) && within(row, 0, e.height - 1));
        int shape = shown(e.picture, e.column + column, e.row + row);
        return shape < 0 ? 0 : e.picture.figures.get(shape).colour;
    }

    int area(int edition, int hand) {
        Frozen e = edition(edition);
        hand(hand);
        return e.areas[hand];
    }

    private void share(Frozen e, long amount) {
        long all = 0;
        for (int area : e.areas) {
            all += area;
        }
        long rest = amount;
        for (int hand = 0; hand < 6; hand++) {
            hands[hand] += amount * e.areas[hand] / all;
            rest -= amount * e.areas[hand] / all;
        }
        hands[e.hand] += rest;
    }

    int sell(int edition, int buyer) {
        Frozen e = edition(edition);
        index(within(buyer, 0, 7));
        int copy = 0;
        while (copy < e.copies.size() && e.copies.get(copy).state != 0) {
            copy++;
        }
        state(!e.withdrawn && copy < e.copies.size());
        Sold sold = e.copies.get(copy);
        sold.state = 1;
        sold.owner = buyer;
        sold.cost = e.price;
        e.sales++;
        buyers[buyer] -= e.price;
        house += e.price / 10;
        share(e, e.price - e.price / 10);
        return copy;
    }

    int resell(int edition, int copy, int buyer, int price) {
        Sold sold = copy(edition, copy);
        index(within(buyer, 0, 7));
        argument(within(price, 0, 100000));
        state(sold.state == 1 && sold.owner != buyer);
        buyers[sold.owner] += price - price / 5;
        buyers[buyer] -= price;
        share(edition(edition), price / 5);
        sold.owner = buyer;
        sold.cost = price;
        return price / 5;
    }

    int takeDown(int shape) {
        shape(shape);
        state(!down.contains(shape));
        int changed = 0;
        for (Frozen e : editions) {
            if (shownShapes(e.picture, e).contains(shape)) {
                for (Sold sold : e.copies) {
                    if (sold.state == 1) {
                        sold.state = 2;
                        sold.answerer = makers.get(shape);
                        changed++;
                    }
                }
            }
        }
        down.add(shape);
        return changed;
    }

    int accept(int edition, int copy) {
        Sold sold = copy(edition, copy);
        state(sold.state == 2);
        sold.state = 1;
        return sold.owner;
    }

    int giveBack(int edition, int copy) {
        Sold sold = copy(edition, copy);
        state(sold.state == 2);
        buyers[sold.owner] += sold.cost;
        hands[sold.answerer] -= sold.cost;
        sold.state = 3;
        sold.owner = -1;
        return sold.cost;
    }

    int copyState(int edition, int copy) {
        return copy(edition, copy).state;
    }

    int owner(int edition, int copy) {
        return copy(edition, copy).owner;
    }

    int money(int hand) {
        hand(hand);
        return hands[hand];
    }

    int moneyAnew(int hand) {
        return money(hand);
    }

    int purse(int buyer) {
        index(within(buyer, 0, 7));
        return buyers[buyer];
    }

    int house() {
        return house;
    }
}
