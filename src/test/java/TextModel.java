import java.util.ArrayList;
import java.util.List;

/**
 * The document's words written down as they stand, without a thought for speed. It shares no idea
 * with the class under test: the pairs are found by the definition in "Terms", not by counting.
 */
final class TextModel {
    static final int BAD = -1;
    static final int FULL = -2;
    static final int NONE = -3;

    private final List<Integer> text = new ArrayList<>();

    int length() {
        return text.size();
    }

    @Override
    public String toString() {
        return text.toString();
    }

    int insert(int at, int code) {
        if (text.size() == 60) {
            return FULL;
        }
        if (at < 0 || at > text.size() || code < 0 || code > 6) {
            return BAD;
        }
        text.add(at, code);
        return text.size();
    }

    int erase(int from, int length) {
        if (!isStretch(from, length)) {
            return BAD;
        }
        text.subList(from, from + length).clear();
        return text.size();
    }

    int move(int from, int length, int to) {
        if (!isStretch(from, length) || to < 0 || to > text.size() - length) {
            return BAD;
        }
        List<Integer> taken = new ArrayList<>(text.subList(from, from + length));
        text.subList(from, from + length).clear();
        text.addAll(to, taken);
        return text.size();
    }

    int mirror(int from, int length) {
        if (!isStretch(from, length)) {
            return BAD;
        }
        List<Integer> old = new ArrayList<>(text);
        for (int i = 0; i < length; i++) {
            int code = old.get(from + length - 1 - i);
            text.set(from + i, code == 0 ? 0 : code <= 3 ? code + 3 : code - 3);
        }
        return text.size();
    }

    int codeAt(int at) {
        return isPosition(at) ? text.get(at) : BAD;
    }

    int partner(int at) {
        if (!isPosition(at)) {
            return BAD;
        }
        for (int other = 0; other < text.size(); other++) {
            for (int kind = 1; kind <= 3; kind++) {
                if (isPair(text, at, other, kind) || isPair(text, other, at, kind)) {
                    return other;
                }
            }
        }
        return NONE;
    }

    int around(int at, int kind) {
        if (!isPosition(at) || kind < 1 || kind > 3) {
            return BAD;
        }
        for (int i = at - 1; i >= 0; i--) {
            for (int j = at + 1; j < text.size(); j++) {
                if (isPair(text, i, j, kind)) {
                    return i;
                }
            }
        }
        return NONE;
    }

    int depth(int at, int kind) {
        if (!isPosition(at) || kind < 1 || kind > 3) {
            return BAD;
        }
        int pairs = 0;
        for (int i = 0; i < at; i++) {
            for (int j = at + 1; j < text.size(); j++) {
                if (isPair(text, i, j, kind)) {
                    pairs++;
                }
            }
        }
        return pairs;
    }

    int looseOpen(int from, int length, int kind) {
        return loose(from, length, kind, kind);
    }

    int looseClose(int from, int length, int kind) {
        return loose(from, length, kind, kind + 3);
    }

    private int loose(int from, int length, int kind, int code) {
        if (!isStretch(from, length) || kind < 1 || kind > 3) {
            return BAD;
        }
        List<Integer> alone = text.subList(from, from + length);
        int loose = 0;
        for (int i = 0; i < length; i++) {
            if (alone.get(i) == code && !isInPair(alone, i, kind)) {
                loose++;
            }
        }
        return loose;
    }

    private static boolean isInPair(List<Integer> text, int at, int kind) {
        for (int other = 0; other < text.size(); other++) {
            if (isPair(text, at, other, kind) || isPair(text, other, at, kind)) {
                return true;
            }
        }
        return false;
    }

    private static boolean isPair(List<Integer> text, int i, int j, int kind) {
        if (j <= i || text.get(i) != kind || text.get(j) != kind + 3) {
            return false;
        }
        int opening = 0;
        int closing = 0;
        for (int place = i + 1; place < j; place++) {
            if (text.get(place) == kind) {
                opening++;
            }
            if (text.get(place) == kind + 3) {
                closing++;
            }
            if (closing > opening) {
                return false;
            }
        }
        return opening == closing;
    }

    private boolean isPosition(int at) {
        return at >= 0 && at < text.size();
    }

    private boolean isStretch(int from, int length) {
        return from >= 0 && length >= 0 && (long) from + (long) length <= text.size();
    }
}
