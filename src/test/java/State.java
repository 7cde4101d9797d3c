/** All that the document calls the state of an object, as text: its edges and its kept vertices. */
final class State {
    private State() {
    }

    /** Takes all edges and kept vertices away, as no call shows them and leaves them. */
    static String takenFrom(FeedbackBreaker x) {
        int n = x.vertices();
        StringBuilder text = new StringBuilder("edges ");
        for (int u = 0; u < n; u++) {
            for (int v = u; v < n; v++) text.append(x.link(u, v, 0));
        }
        text.append(" kept ");
        for (int v = 0; v < n; v++) text.append(x.keep(v, 0));
        return text.toString();
    }

    static String takenFrom(Model model) {
        StringBuilder text = new StringBuilder("edges ");
        for (int u = 0; u < model.n; u++) {
            for (int v = u; v < model.n; v++) text.append(model.link(u, v, 0));
        }
        text.append(" kept ");
        for (int v = 0; v < model.n; v++) text.append(model.keep(v, 0));
        return text.toString();
    }
}
