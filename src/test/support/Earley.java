import java.util.ArrayList;
import java.util.HashMap;
import java.util.LinkedHashSet;
import java.util.List;
import java.util.Map;

/**
 * Tells how far a row of tokens is the beginning of a design or script, by Earley's way of reading any grammar.
 * The grammar stands here as the document tells it; a name with @ carries the depth along, and with @+ one more.
 */
final class Earley {
    private static final String DESIGN = """
            design = | part ; design
            part = pier NAME | joint NAME | card NAME from NAME to NAME bears NUMBER
            """;
    private static final String SCRIPT = """
            script@ = | statement@ script@
            statement@ = put NAME sum@ ; | take NAME sum@ ; | cut NAME ; | glue NAME ; | write sum@ ;
            statement@ = repeat NUMBER block@ | if test@ block@ | if test@ block@ else block@
            block@ = [+ script@+ ]
            test@ = both@ | both@ or test@
            both@ = single@ | single@ and both@
            single@ = not+ single@+ | {+ test@+ } | holds | hangs NAME
            single@ = sum@ < sum@ | sum@ > sum@ | sum@ = sum@ | sum@ <= sum@ | sum@ >= sum@
            sum@ = product@ | product@ + sum@ | product@ - sum@
            product@ = value@ | value@ * product@ | value@ / product@
            value@ = NUMBER | load NAME | bears | all | fits | -+ value@+ | (+ sum@+ )
            value@ = min (+ sum@+ , sum@+ ) | max (+ sum@+ , sum@+ )
            """;

    private final Map<String, List<String[]>> rules = new HashMap<>();
    private final String start;

    Earley(boolean isScript) {
        start = isScript ? "script0" : "design";
        for (int depth = 0; depth <= 8; depth++) {
            for (String line : (isScript ? SCRIPT : DESIGN).split("\n")) {
                int equals = line.indexOf(" = ");
                String left = line.substring(0, equals).replace("@", "" + depth);
                for (String right : line.substring(equals + 3).split(" \\| |^\\| ", -1)) {
                    rules.computeIfAbsent(left, x -> new ArrayList<>()).add(atDepth(right, depth));
                }
            }
            if (!isScript) {
                break;
            }
        }
    }

    private static String[] atDepth(String right, int depth) {
        List<String> signs = new ArrayList<>();
        for (String sign : right.trim().split(" ")) {
            if (sign.isEmpty()) {
                continue;
            }
            if (sign.endsWith("@+")) {
                signs.add(sign.replace("@+", "" + (depth + 1)));
            } else if (sign.endsWith("@")) {
                signs.add(sign.replace("@", "" + depth));
            } else if (sign.length() > 1 && sign.endsWith("+")) {
                // At depth 8 nothing may open any more.
                signs.add(depth == 8 ? "NEVER" : sign.substring(0, sign.length() - 1));
            } else {
                signs.add(sign);
            }
        }
        return signs.toArray(new String[0]);
    }

    private record Item(String left, String[] right, int dot, int from) {
        String next() {
            return dot < right.length ? right[dot] : null;
        }

        Item moved() {
            return new Item(left, right, dot + 1, from);
        }

        @Override
        public boolean equals(Object other) {
            return other instanceof Item i && left.equals(i.left) && right == i.right && dot == i.dot && from == i.from;
        }

        @Override
        public int hashCode() {
            return left.hashCode() * 31 + System.identityHashCode(right) + dot * 7 + from * 1009;
        }
    }

    /** The number of the first token with which the row is no beginning; the row's length if it just ends early; -1 if it is whole. */
    int firstWrong(List<String> tokens) {
        List<LinkedHashSet<Item>> columns = new ArrayList<>();
        LinkedHashSet<Item> first = new LinkedHashSet<>();
        for (String[] right : rules.get(start)) {
            first.add(new Item(start, right, 0, 0));
        }
        columns.add(first);
        for (int at = 0; at <= tokens.size(); at++) {
            close(columns, at);
            if (at == tokens.size()) {
                break;
            }
            LinkedHashSet<Item> next = new LinkedHashSet<>();
            for (Item item : columns.get(at)) {
                if (tokens.get(at).equals(item.next())) {
                    next.add(item.moved());
                }
            }
            if (next.isEmpty()) {
                return at;
            }
            columns.add(next);
        }
        for (Item item : columns.get(tokens.size())) {
            if (item.left().equals(start) && item.from() == 0 && item.next() == null) {
                return -1;
            }
        }
        return tokens.size();
    }

    private void close(List<LinkedHashSet<Item>> columns, int at) {
        LinkedHashSet<Item> column = columns.get(at);
        List<Item> todo = new ArrayList<>(column);
        for (int i = 0; i < todo.size(); i++) {
            Item item = todo.get(i);
            List<Item> found = new ArrayList<>();
            if (item.next() == null) {
                for (Item waiting : new ArrayList<>(columns.get(item.from()))) {
                    if (item.left().equals(waiting.next())) {
                        found.add(waiting.moved());
                    }
                }
            } else if (rules.containsKey(item.next())) {
                for (String[] right : rules.get(item.next())) {
                    found.add(new Item(item.next(), right, 0, at));
                    if (right.length == 0) {
                        found.add(item.moved());
                    }
                }
            }
            for (Item one : found) {
                if (column.add(one)) {
                    todo.add(one);
                }
            }
        }
    }
}
