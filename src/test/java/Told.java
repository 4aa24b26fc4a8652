/**
 * All that an object tells of itself, as one text, in fewer than 400 calls. It is not the same object behind that:
 * it has been read, judged with other ROWS, and brought back to what was kept.
 */
final class Told {
    private final SizedParts x;
    private final StringBuilder text = new StringBuilder();

    private Told(SizedParts x) {
        this.x = x;
    }

    static String by(SizedParts x) {
        Told told = new Told(x);
        told.parts();
        told.goings();
        told.host();
        told.searches();
        told.rows();
        told.tape();
        told.kept();
        return told.text.toString();
    }

    private void note(int answer) {
        text.append(answer).append(' ');
    }

    private void topic(String name) {
        text.append("| ").append(name).append(' ');
    }

    private void parts() {
        topic("many");
        for (int what = 0; what <= 10; what++) note(x.many(what));
        topic("parts");
        int parts = x.many(0);
        for (int part = 0; part < parts; part++) {
            for (int what = 0; what <= 8; what++) note(x.partOf(part, what));
        }
    }

    private void goings() {
        topic("flows");
        int high = 20 * 441 + 5 * 21 + 10, parts = x.many(0);
        for (int part = 0; part < parts; part++) {
            note(x.flow(part, 0, 4));
            note(x.flow(part, high, 8));
        }
        topic("goes");
        for (int corner = 0; corner < 9; corner++) note(x.goes(corner, 0));
        topic("holds");
        for (int corner = 0; corner < 9; corner++) note(x.holds(corner));
        note(x.missed());
    }

    private void host() {
        topic("items");
        for (int sheet = 0; sheet < 4; sheet++) {
            for (int sort = 0; sort < 4; sort++) {
                note(x.item(sheet, sort, 0));
                note(x.item(sheet, sort, 2));
                note(x.item(sheet, sort, 20));
            }
        }
        topic("taken");
        for (int shelf = 0; shelf < 4; shelf++) {
            note(x.taken(shelf, 0));
            note(x.taken(shelf, 3));
            note(x.taken(shelf, 6));
            note(x.taken(shelf, 11));
        }
        topic("trace");
        for (int i = 0; i < 11; i++) note(x.trace(i));
    }

    private void searches() {
        topic("searches");
        int open = x.many(3);
        for (int what = -1; what < open; what++) note(x.sizing(what));
        note(x.help());
        note(x.which());
        for (int node = 2; node <= 4; node++) {
            int was = x.measured(node, 0);
            note(was);
            x.measured(node, was);
        }
    }

    /** With other SIZES in ROWS THE READER tells what OPEN PARTS may have. */
    private void rows() {
        topic("rows");
        note(x.judge());
        int rows = x.many(5);
        for (int i = 0; i < rows; i++) {
            note(x.row(i, 0));
            note(x.row(i, 1));
            for (int size = 1; size <= 9; size++) {
                int was = x.alterRow(i, 1, size);
                note(x.judge());
                x.alterRow(i, 1, was);
            }
        }
    }

    private void tape() {
        topic("tape");
        note(x.read());
        note(x.many(2));
        note(x.missed());
        note(x.sizing(-1));
        note(x.help());
    }

    private void kept() {
        topic("kept");
        note(x.again());
        for (int what = 0; what <= 10; what++) note(x.many(what));
        int parts = x.many(0);
        for (int part = 0; part < parts; part++) note(x.partOf(part, 2));
        note(x.help());
    }
}
