import java.util.ArrayList;
import java.util.Arrays;
import java.util.List;
import java.util.Map;
import java.util.regex.Matcher;
import java.util.regex.Pattern;

/** Texts by a fixed seed, whole ones and spoilt ones: fault, place and what is told are those of a second reader. */
public final class TextModelTest {
    private static final Due DUE = new Due("TextModelTest");
    private static final Pattern TOKEN = Pattern.compile("[ \\n]*(?:([a-z]+)|([0-9]+)|(;)|([^ \\n])|$)", Pattern.DOTALL);
    /** How many numbers stand behind a word; those of a kind: one at least. */
    private static final Map<String, Integer> VILLAGE = Map.ofEntries(Map.entry("people", 1), Map.entry("first", 1),
        Map.entry("last", 1), Map.entry("most", 1), Map.entry("till", 1), Map.entry("both", 1), Map.entry("once", 1),
        Map.entry("doubt", 2), Map.entry("tie", 4), Map.entry("slow", 1), Map.entry("tires", 2));
    private static final Map<String, Integer> TELLING = Map.of("word", 2, "deny", 2, "wall", 3);
    private static final List<String> KINDS = List.of("first", "last", "most", "till", "both", "once");
    private static final String[] PIECES = {"people", "first", "last", "most", "till", "both", "once", "doubt", "tie",
        "slow", "tires", "word", "deny", "wall", ";", " ", "\n", "0", "1", "2", "3", "4", "9", "10", "15", "16", "30", "31",
        "39", "40", "99", "00", "007", "100", "x", "A", "-", "\t", "\u00e9", "\u0000", "peopl", "peoples"};
    private static long random = 41L;

    private int fault;
    private int place = -1;
    private final int[] numbers = {2, 0, 0, 0, 0};
    private final int[] kinds = new int[16];
    private final int[] doubts = new int[16];
    private final List<int[]> rows = new ArrayList<>();

    private static int below(int n) {
        random = random * 6364136223846793005L + 1442695040888963407L;
        return (int) ((random >>> 33) % n);
    }

    private void blame(int what, int at) {
        if (fault == 0) {
            fault = what;
            place = at;
        }
    }

    private static boolean canBe(String word, List<Integer> line, int at) {
        int n = line.get(at);
        boolean person = n <= 15;
        switch (word) {
            case "people": return n >= 1 && n <= 16;
            case "doubt": return at == 0 ? person : n >= 1;
            case "tie": return at == 0 ? person : at == 1 ? person && n != line.get(0) : n >= 1 && n <= (at == 2 ? 3 : 9);
            case "slow": return n <= 3;
            case "tires": return n <= 30;
            case "word":
            case "deny": return at == 0 || person;
            case "wall": return at == 0 ? n <= 39 : at == 1 || n >= line.get(1);
            default: return person;
        }
    }

    TextModelTest(int sort, String text) {
        Arrays.fill(doubts, 1);
        Map<String, Integer> words = sort == 0 ? VILLAGE : TELLING;
        Matcher m = TOKEN.matcher(text);
        int strangers = -1;
        String word = null;
        List<Integer> line = new ArrayList<>();
        while (m.find()) {
            int group = m.group(1) != null ? 1 : m.group(2) != null ? 2 : m.group(3) != null ? 3 : m.group(4) != null ? 4 : 0;
            int at = group == 0 ? text.length() : m.start(group);
            boolean kind = word != null && KINDS.contains(word);
            boolean goesOn;
            if (word == null) {
                goesOn = group == 0 || group == 1 && words.containsKey(m.group(1));
            } else if (group == 2) {
                goesOn = m.group(2).length() <= 2 && (kind || line.size() < words.get(word));
            } else {
                goesOn = group == 3 && (kind ? !line.isEmpty() : line.size() == words.get(word));
            }
            if (!goesOn) {
                fault = 1;
                place = at;
                return;
            }
            if (group == 0) {
                break;
            }
            if (group == 1) {
                word = m.group(1);
                line = new ArrayList<>();
                if (word.equals("tie") && rows.size() >= 40 || sort == 1 && rows.size() >= 30) {
                    blame(3, at);
                }
            } else if (group == 2) {
                line.add(Integer.parseInt(m.group(2)));
                if (!canBe(word, line, line.size() - 1)) {
                    blame(2, at);
                } else if (sort == 0 && (kind || word.equals("doubt") && line.size() == 1 || word.equals("tie") && line.size() < 3)) {
                    strangers = Math.max(strangers, line.get(line.size() - 1));
                }
            } else {
                tell(word, line);
                word = null;
            }
        }
        if (sort == 0 && strangers >= numbers[0]) {
            blame(4, text.length());
        }
    }

    private void tell(String word, List<Integer> line) {
        if (word.equals("tie")) {
            rows.add(new int[] {line.get(0), line.get(1), line.get(2), line.get(3)});
        } else if (TELLING.containsKey(word)) {
            int sort = List.of("word", "deny", "wall").indexOf(word);
            rows.add(new int[] {sort, line.get(0), line.get(1), line.size() > 2 ? line.get(2) : -1});
        } else if (fault == 0) {
            switch (word) {
                case "people": numbers[0] = line.get(0); break;
                case "slow": numbers[2] = line.get(0); break;
                case "tires":
                    numbers[3] = line.get(0);
                    numbers[4] = line.get(1);
                    break;
                case "doubt": doubts[line.get(0)] = line.get(1); break;
                default:
                    for (int p : line) {
                        kinds[p] = KINDS.indexOf(word);
                    }
            }
        }
    }

    private static String line(int sort) {
        int spoil = below(40);
        String[] words = sort == 0
            ? new String[] {"people", "first", "last", "most", "till", "both", "once", "doubt", "tie", "tie", "slow", "tires"}
            : new String[] {"word", "deny", "wall"};
        String word = words[below(words.length)];
        int many = (sort == 0 ? VILLAGE : TELLING).get(word);
        if (KINDS.contains(word)) {
            many += below(4);
        }
        StringBuilder b = new StringBuilder(word);
        for (int i = 0; i < many + (spoil == 1 ? 1 : spoil == 2 ? -1 : 0); i++) {
            int greatest = spoil == 3 ? 100 : word.equals("tie") && i > 1 ? i == 2 ? 3 : 9 : word.equals("slow") ? 4 : 9;
            int n = below(greatest) + (spoil != 4 && (word.equals("people") || word.equals("tie") && i > 1) ? 1 : 0);
            b.append(below(20) == 0 ? "\n " : " ").append(n);
        }
        return b.append(spoil == 5 ? "" : ";").append(below(9) == 0 ? " " : "").toString();
    }

    private static String text(int sort) {
        StringBuilder b = new StringBuilder();
        int lines = below(10) == 0 ? 45 : below(8);
        if (sort == 0 && below(4) != 0) {
            b.append("people ").append(below(5) == 0 ? below(18) : 9).append(';');
        }
        for (int i = 0; i < lines; i++) {
            b.append(lines == 45 && sort == 0 ? "tie 0 1 " + (1 + below(below(300) == 0 ? 4 : 3)) + " 1;" : line(sort));
        }
        while (below(3) == 0 && b.length() > 0) {
            int at = below(b.length() + 1);
            switch (below(3)) {
                case 0: b.insert(at, PIECES[below(PIECES.length)]); break;
                case 1: b.delete(at, Math.min(b.length(), at + 1 + below(3))); break;
                default: b.setLength(Math.max(0, b.length() - below(4)));
            }
        }
        b.setLength(Math.min(600, b.length()));
        return b.toString();
    }

    private static void check(int round) {
        int sort = below(2);
        String text = text(sort);
        TextModelTest due = new TextModelTest(sort, text);
        SaidBack x = new SaidBack();
        String what = sort + " '" + text + "' ";
        DUE.is(what + "text", Tapes.tell(x, sort, text), due.fault == 0 ? 0 : -1);
        DUE.is(what + "fault", x.fault(0), due.fault);
        DUE.is(what + "place", x.fault(1), due.place);
        DUE.is(what + "count", x.count(sort), due.fault == 0 ? 1 : 0);
        if (due.fault != 0) {
            return;
        }
        DUE.is(what + "rows", sort == 0 ? x.village(0, 1) : x.act(0, -1, 0), due.rows.size());
        for (int i = 0; i < due.rows.size(); i++) {
            for (int j = 0; j < 4; j++) {
                DUE.is(what + "row " + i + " " + j, sort == 0 ? x.tie(0, i, j) : x.act(0, i, j), due.rows.get(i)[j]);
            }
        }
        for (int i = 0; sort == 0 && i < 5; i++) {
            DUE.is(what + i, x.village(0, i), i == 1 ? due.rows.size() : due.numbers[i]);
        }
        for (int p = 0; sort == 0 && p < due.numbers[0]; p++) {
            DUE.is(what + "kind " + p, x.village(0, 10 + p), due.kinds[p]);
            DUE.is(what + "doubt " + p, x.village(0, 30 + p), due.doubts[p]);
        }
    }

    public static void main(String[] args) {
        int rounds = args.length > 0 ? Integer.parseInt(args[0]) : 8000;
        for (int round = 0; round < rounds; round++) {
            check(round);
        }
        DUE.end();
    }
}
