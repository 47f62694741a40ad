/** All that an object tells without being changed by it. */
final class State {
    private State() {
    }

    static String withoutFindings(TowerBoards t) {
        StringBuilder told = new StringBuilder();
        told.append(t.ways()).append(' ').append(t.asked());
        told.append(' ').append(t.upper()).append(' ').append(t.lower());
        for (int what = 0; what <= 4; what++) {
            told.append(' ').append(t.count(what));
        }
        return told.append(' ').append(t.digest()).toString();
    }

    static int[] findings(TowerBoards t) {
        int[] counts = new int[6];
        for (int f = 1; f <= 5; f++) {
            counts[f] = t.findings(f);
        }
        return counts;
    }

    static String all(TowerBoards t) {
        return withoutFindings(t) + " " + t.finding() + " " + java.util.Arrays.toString(findings(t));
    }
}
