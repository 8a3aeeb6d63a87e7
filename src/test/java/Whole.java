import java.util.HashSet;
import java.util.LinkedHashMap;
import java.util.List;
import java.util.Map;
import java.util.Objects;
import java.util.Set;

/** All that can be seen of an object at one time, but for its TAPE. */
final class Whole {
    private final Map<String, Integer> seen = new LinkedHashMap<>();

    Whole(Lasting x) {
        seen.put("state", x.state());
        for (int what = 0; what <= 8; what++) {
            seen.put("look " + what, x.look(what));
        }
        for (int r = 0; r <= 32; r++) {
            seen.put("register " + r, x.register(r));
        }
        for (int h = 1; h <= 10; h++) {
            for (int what = 0; what < 4; what++) {
                seen.put("handle " + h + " " + what, x.handle(h, what));
            }
        }
        seeFiles(x);
        seeOutput(x);
        for (int place = 0; place < 16384; place++) {
            seen.put("peek " + place, x.peek(place));
        }
    }

    private void seeFiles(Lasting x) {
        int files = x.files();
        seen.put("files", files);
        for (int k = 0; k < files; k++) {
            for (int what = 0; what < 3; what++) {
                seen.put("file " + k + " " + what, x.file(k, what));
            }
            for (int i = 0; i < seen.get("file " + k + " 0"); i++) {
                seen.put("byte " + k + " " + i, x.fileByte(k, i, false));
            }
            for (int i = 0; i < seen.get("file " + k + " 1"); i++) {
                seen.put("name " + k + " " + i, x.fileByte(k, i, true));
            }
        }
    }

    private void seeOutput(Lasting x) {
        for (int which = 0; which < 2; which++) {
            int printed = x.printed(which);
            seen.put("printed " + which, printed);
            for (int i = 0; i < Math.min(printed, 2000); i++) {
                seen.put("print " + which + " " + i, x.print(which, i));
            }
        }
    }

    /** The first thing that is not as it was then, other than those named; nothing if there is none. */
    String changedSince(Whole then, String... allowed) {
        Set<String> keys = new HashSet<>(seen.keySet());
        keys.addAll(then.seen.keySet());
        keys.removeAll(List.of(allowed));
        for (String key : keys) {
            if (!Objects.equals(seen.get(key), then.seen.get(key))) {
                return key + " was " + then.seen.get(key) + ", is " + seen.get(key);
            }
        }
        return "";
    }
}
