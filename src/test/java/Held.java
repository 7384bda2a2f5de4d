import java.util.ArrayList;
import java.util.List;

/**
 * What an object holds, told by the calls that make it. Behind a call that must change nothing, all that can be seen
 * of the object is looked at and compared with an object that was made alike and spared the call. What can be seen
 * is split into views, and each view has objects of its own, so that no object comes near its 512th call.
 */
final class Held {
  private static final int MOST = 48;
  private static final int SHEETS = 4;
  static final int VIEWS = 6 + SHEETS;

  private final Edges.Call[] steps;
  private final String tape;
  private final List<String> views = new ArrayList<>();

  /** The tape can't be asked for its bytes, so the view of it must know the row that is looked for. */
  Held(String tape, Edges.Call... steps) {
    this.tape = tape;
    this.steps = steps;
    for (int v = 0; v < VIEWS; v++) {
      views.add(view(v, make()));
    }
  }

  MirrorNodes make() {
    MirrorNodes x = new MirrorNodes();
    for (Edges.Call step : steps) {
      step.on(x);
    }
    return x;
  }

  String untouched(int view) {
    return views.get(view);
  }

  /** Changes the object, which is of no use afterwards. */
  String view(int view, MirrorNodes x) {
    switch (view) {
      case 0: return "text " + counts(x) + letters(x) + " find " + x.find() + " times " + x.times();
      case 1: return "nodes " + nodes(x);
      case 2: return "undone " + undone(x);
      case 3: return "image 0 " + x.back(0) + letters(x);
      case 4: return "image 1 " + x.back(1) + letters(x);
      case 5: return "tape " + tape(x);
      default: return "sheet " + (view - 6) + " " + sheet(x, view - 6);
    }
  }

  private static String counts(MirrorNodes x) {
    StringBuilder seen = new StringBuilder();
    for (int what = 0; what < 8; what++) {
      seen.append(x.count(what)).append(' ');
    }
    return seen.toString();
  }

  private static String letters(MirrorNodes x) {
    StringBuilder seen = new StringBuilder(" ");
    for (int place = 0; place < MOST && x.letter(place) >= 0; place++) {
      seen.append((char) x.letter(place));
    }
    return seen.toString();
  }

  private static String nodes(MirrorNodes x) {
    StringBuilder seen = new StringBuilder();
    for (int v = 0; v < MOST && x.node(v, 0) >= 0; v++) {
      seen.append(x.node(v, 1)).append(' ').append(x.node(v, 2)).append(' ');
      seen.append(x.node(v, 4)).append(' ').append(x.node(v, 6)).append(' ').append(x.node(v, 7)).append(", ");
    }
    return seen.toString();
  }

  private static String undone(MirrorNodes x) {
    StringBuilder seen = new StringBuilder();
    int left = 0;
    for (int i = 0; i < 30 && left >= 0; i++) {
      left = x.undo();
      seen.append(left).append(' ').append(x.count(0)).append(' ').append(x.count(1)).append(' ');
      seen.append(x.count(2)).append(' ').append(x.letter(x.count(0) - 1)).append(", ");
    }
    return seen + letters(x);
  }

  private String tape(MirrorNodes x) {
    Edges.write(x, tape);
    return x.times() + " " + x.count(7) + " " + x.clear();
  }

  private static String sheet(MirrorNodes x, int sheet) {
    Edges.write(x, "abcdef");
    StringBuilder seen = new StringBuilder();
    for (int lane = 0; lane < 4; lane++) {
      int had = x.clear();
      seen.append(had < 0 ? "?" : "").append("lane ").append(x.read(sheet, lane, 0, 0));
      int read = 0;
      for (int i = 0; i < MOST && (read >= 0 || read == Edges.NOT); i++) {
        x.clear();
        read = x.read(sheet, lane, i, 1);
        seen.append(' ').append(read).append('=').append(x.find());
      }
      seen.append(", ");
    }
    return seen.append(x.drop(sheet)).toString();
  }
}
