import java.util.Arrays;

/** One call with its arguments, so that tests can list calls and change one argument. Booleans are 1 or 0. */
final class Call {
    private final String name;
    private final int[] arguments;

    private Call(String name, int[] arguments) {
        this.name = name;
        this.arguments = arguments;
    }

    static Call of(String name, int... arguments) {
        return new Call(name, arguments.clone());
    }

    Call with(int position, int value) {
        int[] changed = arguments.clone();
        changed[position] = value;
        return new Call(name, changed);
    }

    int on(RaceFinder x) {
        int[] n = arguments;
        return switch (name) {
            case "alloc" -> x.alloc(n[0], n[1]);
            case "copy" -> x.copy(n[0], n[1]);
            case "load" -> x.load(n[0], n[1], n[2]);
            case "store" -> x.store(n[0], n[1], n[2]);
            case "once" -> x.once(n[0], n[1] != 0);
            case "region" -> x.region(n[0], n[1], n[2]);
            case "access" -> x.access(n[0], n[1], n[2], n[3] != 0);
            case "pointsTo" -> x.pointsTo(n[0]);
            case "holds" -> x.holds(n[0], n[1]);
            case "race" -> x.race(n[0], n[1]) ? 1 : 0;
            case "races" -> x.races();
            case "held" -> x.held(n[0]);
            case "danger" -> x.danger();
            default -> throw new IllegalArgumentException(name);
        };
    }

    @Override
    public String toString() {
        String inner = Arrays.toString(arguments);
        return name + "(" + inner.substring(1, inner.length() - 1) + ")";
    }
}
