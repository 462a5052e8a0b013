/** A unit and the model side by side: after every call all that can be read is compared. */
final class Twin {
    private final String name;
    private final SrtDivider unit;
    private final Model model;

    Twin(String name, int historyCapacity) {
        this.name = name;
        unit = new SrtDivider(historyCapacity);
        model = new Model(historyCapacity);
        compare("new SrtDivider(" + historyCapacity + ")");
    }

    void load(int dividend, int divisor) {
        String call = "load(" + dividend + ", " + divisor + ")";
        Check.due(name + call, unit.load(dividend, divisor), model.load(dividend, divisor));
        compare(call);
    }

    void start() {
        Check.due(name + "start()", unit.start(), model.start());
        compare("start()");
    }

    void step(int count) {
        String call = "step(" + count + ")";
        Check.due(name + call, unit.step(count), model.step(count));
        compare(call);
    }

    void divide(int dividend, int divisor) {
        String call = "divide(" + dividend + ", " + divisor + ")";
        Check.due(name + call, unit.divide(dividend, divisor), model.divide(dividend, divisor));
        compare(call);
    }

    void cancel() {
        Check.due(name + "cancel()", unit.cancel(), model.cancel());
        compare("cancel()");
    }

    void clearHistory() {
        unit.clearHistory();
        model.clearHistory();
        compare("clearHistory()");
    }

    private void compare(String call) {
        Check.unchanged(name + call, Snapshot.of(model), unit);
    }
}
