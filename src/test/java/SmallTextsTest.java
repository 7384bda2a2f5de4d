import java.util.ArrayList;
import java.util.LinkedHashSet;
import java.util.List;

/**
 * All texts of up to eight letters a to c. The answers that are due are found by trying every way (every cut, every
 * letter put in or changed), in other ways than the class's and the model's of ModelTest.
 */
public final class SmallTextsTest {
  private static final int NONE = -4;
  private static final int LONGEST = 8;
  /** Trying all letters that could be put in grows too dear for longer ones. */
  private static final int LONGEST_MENDED = 6;
  private static final String LETTERS = "abc";

  private static int wrong = 0;
  private static String text = "";

  private static void due(String call, long got, long want) {
    if (got != want && wrong++ < 20) {
      System.out.println("text '" + text + "': " + call + " answered " + got + ", due is " + want);
    }
  }

  public static void main(String[] args) {
    List<List<String>> texts = textsByLength();
    int many = 0;
    for (List<String> alike : texts) {
      for (String row : alike) {
        text = row;
        many++;
        ask(alike);
      }
    }
    System.out.println(wrong == 0 ? many + " texts are as due" : wrong + " answers are not as due");
    if (wrong != 0) {
      System.exit(1);
    }
  }

  private static List<List<String>> textsByLength() {
    List<List<String>> texts = new ArrayList<>();
    texts.add(List.of(""));
    for (int n = 1; n <= LONGEST; n++) {
      List<String> longer = new ArrayList<>();
      for (String row : texts.get(n - 1)) {
        for (char c : LETTERS.toCharArray()) {
          longer.add(row + c);
        }
      }
      texts.add(longer);
    }
    return texts;
  }

  // No object comes near its 512th call: each group of questions has one of its own.
  private static void ask(List<String> ofThisLength) {
    List<String> nodes = new ArrayList<>(palindromes(text));
    counts(made(), nodes);
    nodes(made(), nodes);
    ends(made());
    cuts(made());
    spans(made());
    turned(made());
    following(made(), nodes);
    if (text.length() <= LONGEST_MENDED) {
      mends(made(), ofThisLength);
    }
  }

  private static MirrorNodes made() {
    MirrorNodes x = new MirrorNodes();
    for (char c : text.toCharArray()) {
      x.put(c);
    }
    return x;
  }

  private static boolean isMirror(String row) {
    for (int i = 0; i < row.length() / 2; i++) {
      if (row.charAt(i) != row.charAt(row.length() - 1 - i)) {
        return false;
      }
    }
    return true;
  }

  /** In the order of their first ends. */
  private static LinkedHashSet<String> palindromes(String row) {
    LinkedHashSet<String> found = new LinkedHashSet<>();
    for (int end = 1; end <= row.length(); end++) {
      for (int start = 0; start < end; start++) {
        if (isMirror(row.substring(start, end))) {
          found.add(row.substring(start, end));
        }
      }
    }
    return found;
  }

  private static String longest(Iterable<String> rows) {
    String best = "";
    for (String row : rows) {
      best = row.length() > best.length() ? row : best;
    }
    return best;
  }

  private static void counts(MirrorNodes x, List<String> nodes) {
    int places = 0;
    for (int i = 0; i < text.length(); i++) {
      for (int j = i + 1; j <= text.length(); j++) {
        places += isMirror(text.substring(i, j)) ? 1 : 0;
      }
    }
    due("count(0)", x.count(0), text.length());
    due("count(1)", x.count(1), nodes.size());
    due("count(2)", x.count(2), places);
    due("count(3)", x.count(3), nodes.stream().filter(row -> row.length() % 2 == 0).count());
    due("count(4)", x.count(4), longest(nodes).length());
    due("count(5)", x.count(5), nodes.size() == text.length() ? 1 : 0);
  }

  private static void nodes(MirrorNodes x, List<String> nodes) {
    List<String> links = new ArrayList<>();
    for (String row : nodes) {
      List<String> shorter = new ArrayList<>(nodes);
      shorter.removeIf(other -> other.length() >= row.length() || !row.endsWith(other));
      links.add(longest(shorter));
    }
    for (int v = 0; v < nodes.size(); v++) {
      String row = nodes.get(v);
      String core = row.length() < 3 ? "" : row.substring(1, row.length() - 1);
      due("node(" + v + ", 0)", x.node(v, 0), row.length());
      due("node(" + v + ", 1)", x.node(v, 1), text.indexOf(row));
      due("node(" + v + ", 2)", x.node(v, 2), text.lastIndexOf(row));
      due("node(" + v + ", 4)", x.node(v, 4), numberOf(nodes, links.get(v)));
      due("node(" + v + ", 5)", x.node(v, 5), less(nodes, links, v));
      due("node(" + v + ", 6)", x.node(v, 6), seriesOf(nodes, links, v));
      due("node(" + v + ", 7)", x.node(v, 7), numberOf(nodes, core));
    }
  }

  private static int numberOf(List<String> nodes, String row) {
    return row.isEmpty() ? NONE : nodes.indexOf(row);
  }

  private static int less(List<String> nodes, List<String> links, int v) {
    return nodes.get(v).length() - links.get(v).length();
  }

  private static int seriesOf(List<String> nodes, List<String> links, int v) {
    int other = numberOf(nodes, links.get(v));
    while (other >= 0 && less(nodes, links, other) == less(nodes, links, v)) {
      other = numberOf(nodes, links.get(other));
    }
    return other;
  }

  private static void ends(MirrorNodes x) {
    for (int place = 0; place < text.length(); place++) {
      int many = 0;
      for (int start = 0; start <= place; start++) {
        if (isMirror(text.substring(start, place + 1))) {
          due("ends(" + place + ", " + many + ")", x.ends(place, many), place + 1 - start);
          many++;
        }
      }
      due("ends(" + place + ", -1)", x.ends(place, -1), many);
      due("ends(" + place + ", " + many + ")", x.ends(place, many), NONE);
    }
  }

  private static void cuts(MirrorNodes x) {
    List<List<Integer>> ways = new ArrayList<>();
    collectCuts(0, new ArrayList<>(), ways);
    List<Integer> best = null;
    int evens = NONE;
    for (List<Integer> way : ways) {
      // Ways come by the lengths of their pieces, the least first, so of those as good the first one is due.
      best = best == null || way.size() < best.size() ? way : best;
      boolean even = way.stream().allMatch(length -> length % 2 == 0);
      evens = even && (evens == NONE || way.size() < evens) ? way.size() : evens;
    }
    int n = text.length();
    due("cuts(" + n + ", -1)", x.cuts(n, -1), best.size());
    for (int k = 0; k < best.size(); k++) {
      due("cuts(" + n + ", " + k + ")", x.cuts(n, k), best.get(k));
    }
    due("cuts(" + n + ", " + best.size() + ")", x.cuts(n, best.size()), NONE);
    due("evens(" + n + ")", x.evens(n), evens);
  }

  private static void collectCuts(int from, List<Integer> now, List<List<Integer>> ways) {
    if (from == text.length()) {
      ways.add(new ArrayList<>(now));
      return;
    }
    for (int end = from + 1; end <= text.length(); end++) {
      if (isMirror(text.substring(from, end))) {
        now.add(end - from);
        collectCuts(end, now, ways);
        now.remove(now.size() - 1);
      }
    }
  }

  private static void spans(MirrorNodes x) {
    for (int i = 0; i <= text.length(); i++) {
      for (int j = i; j <= text.length(); j++) {
        String span = text.substring(i, j);
        String best = longest(palindromes(span));
        String call = "in(" + i + ", " + j + ", ";
        due(call + "0)", x.in(i, j, 0), best.length());
        due(call + "1)", x.in(i, j, 1), best.isEmpty() ? NONE : i + span.indexOf(best));
        due(call + "2)", x.in(i, j, 2), palindromes(span).size());
      }
    }
  }

  private static void turned(MirrorNodes x) {
    int many = 0;
    int least = NONE;
    for (int k = text.length() - 1; k >= 0; k--) {
      if (isMirror(text.substring(k) + text.substring(0, k))) {
        many++;
        least = k;
      }
    }
    due("turned(0)", x.turned(0), many);
    due("turned(1)", x.turned(1), least);
  }

  private static void following(MirrorNodes x, List<String> nodes) {
    int most = 0;
    char first = 0;
    int rows = 0;
    for (char c = 'a'; c <= 'f'; c++) {
      int start = 0;
      while (!isMirror((text + c).substring(start))) {
        start++;
      }
      int then = palindromes(text + c).size();
      due("next(" + (int) c + ", 0)", x.next(c, 0), text.length() + 1 - start);
      due("next(" + (int) c + ", 1)", x.next(c, 1), then - nodes.size());
      first = then > most ? c : first;
      most = Math.max(most, then);
      rows += then > nodes.size() ? 1 : 0;
    }
    due("grow(1, -1)", x.grow(1, -1), most);
    due("grow(1, 0)", x.grow(1, 0), first);
    due("odds(1, 1, 0) by odds(1, 1, 1)", 6L * x.odds(1, 1, 0), (long) rows * x.odds(1, 1, 1));
  }

  private static void mends(MirrorNodes x, List<String> ofThisLength) {
    int fewest = text.length();
    for (String other : ofThisLength) {
      int unlike = 0;
      for (int i = 0; i < text.length(); i++) {
        unlike += text.charAt(i) == other.charAt(i) ? 0 : 1;
      }
      fewest = isMirror(other) ? Math.min(fewest, unlike) : fewest;
    }
    due("mend(0)", x.mend(0), fewest);
    int fills = 0;
    while (!canFill(text, fills)) {
      fills++;
    }
    due("mend(1)", x.mend(1), fills);
  }

  private static boolean canFill(String row, int left) {
    if (isMirror(row)) {
      return true;
    }
    for (int i = 0; left > 0 && i <= row.length(); i++) {
      for (char c : LETTERS.toCharArray()) {
        if (canFill(row.substring(0, i) + c + row.substring(i), left - 1)) {
          return true;
        }
      }
    }
    return false;
  }
}
