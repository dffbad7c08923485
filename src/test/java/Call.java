import java.util.Arrays;

/** One call of the class, which can be made on any object and can be printed. */
final class Call {
    private final String name;
    private final int[] args;

    Call(String name, int... args) {
        this.name = name;
        this.args = args;
    }

    int on(HornProtocol x) {
        return switch (name) {
            case "make" -> x.make(args[0], args[1], args[2]);
            case "know" -> x.know(args[0]);
            case "rule" -> x.rule(args[0], args[1], args[2]);
            case "saturate" -> x.saturate();
            case "rank" -> x.rank(args[0], args[1], args[2]);
            case "groundId" -> x.groundId(args[0], args[1], args[2]);
            case "step" -> x.step(args[0], args[1], args[2], args[3]);
            case "stepFact" -> x.stepFact(args[0]);
            case "kindOf" -> x.kindOf(args[0]);
            case "child" -> x.child(args[0], args[1]);
            case "entry" -> x.entry(args[0]);
            case "ruleTerm" -> x.ruleTerm(args[0], args[1]);
            case "count" -> x.count(args[0]);
            default -> throw new IllegalStateException("no method " + name);
        };
    }

    @Override
    public String toString() {
        String list = Arrays.toString(args);
        return name + "(" + list.substring(1, list.length() - 1) + ")";
    }
}
