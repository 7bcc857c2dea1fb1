import java.util.ArrayList;
import java.util.List;

/** All that can be seen of a BlockVault, by fewer calls than an object's 512, and what the next calls make of it. */
final class View {
    private final List<String> lines = new ArrayList<>();

    View(BlockVault x) {
        look(x);
        see("flush(1) then", x.flush(1));
        for (int b = 0; b < 8; b++) {
            see("block(" + b + ", 0) then", x.block(b, 0));
        }
        see("crash(-1) then", x.crash(-1));
        see("start() then", x.start());
        see("count(4) then", x.count(4));
    }

    private void look(BlockVault x) {
        for (int what = 0; what < 8; what++) {
            see("count(" + what + ")", x.count(what));
        }
        for (int key = 0; key < 16; key++) {
            see("get(" + key + ")", x.get(key));
            for (int what = 0; what < 7; what++) {
                see("entry(" + key + ", " + what + ")", x.entry(key, what));
            }
        }
        for (int b = 0; b < 8; b++) {
            for (int what = 0; what < 5; what++) {
                see("block(" + b + ", " + what + ")", x.block(b, what));
            }
            int length = x.block(b, 3);
            for (int k = 0; k <= length; k++) {
                see("image(" + b + ", " + k + ")", x.image(b, k));
            }
        }
    }

    private void see(String call, long answer) {
        lines.add(call + " " + answer);
    }

    /** The first call that answers otherwise, or nothing. */
    String difference(View other) {
        for (int i = 0; i < lines.size() && i < other.lines.size(); i++) {
            if (!lines.get(i).equals(other.lines.get(i))) {
                return lines.get(i) + ", without it " + other.lines.get(i);
            }
        }
        return lines.size() == other.lines.size() ? "" : "one image is longer";
    }
}
