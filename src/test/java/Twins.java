import java.util.ArrayList;
import java.util.List;
import java.util.function.Supplier;
import java.util.function.ToIntFunction;

/**
 * Two objects that were made alike: behind a call that is refused, or that only asks, one must still
 * be like the other in all that can be seen, or called back.
 */
final class Twins {
  private static final int NONE = PostFrame.NONE;

  /** CODES 0, 1 go to HOLE 0; 2, 3, 7 to HOLE 1; 4, 5, 6 are LOST. */
  static final String SMALL = "frame 2 3 2;room 0 2;plan 1 0 0;plan 2 1 1;plan 3 7 1;"
      + "letter 0;letter 2;letter 7;letter 5;letter 1";

  private Twins() { }

  /** All of it in use, nothing full: 2 RULES, 2 NOTES, 7 ACTS, IMAGES 1 and 3, a text on the TAPE. */
  static PostFrame rich() {
    PostFrame x = Check.framed(SMALL);
    Check.rule(x, "take code + 1");
    Check.rule(x, "take place + 1");
    x.image(1);
    x.force(1);
    x.seed(77);
    x.note(0, 0, 1);
    x.note(2, 1, 0);
    x.turn();
    x.turn();
    x.post(6);
    x.enter(0, 0, 1);
    x.turn();
    x.tie(1);
    x.image(3);
    x.enter(3, 2, 0);
    Check.tape(x, "frame 3 2 4;plan 1 2 3;letter 8;letter 7");
    return x;
  }

  /** All places taken: 12 ENTRIES, 20 that wait, 6 RULES, 10 NOTES, 20 ACTS, 4 IMAGES, 400 bytes. */
  static PostFrame full() {
    StringBuilder text = new StringBuilder("frame 4 3 2;room 0 1;room 1 20");
    for (int i = 0; i < 12; i++) text.append(";plan 3 ").append(4 * i).append(' ').append(i % 2);
    for (int i = 0; i < 12; i++) text.append(";letter ").append(5 * i);
    PostFrame x = Check.framed(text.toString());
    for (int i = 0; i < 6; i++) Check.rule(x, "take " + (i + 1) + " + code * " + i);
    x.force(5);
    x.seed(Integer.MAX_VALUE);
    for (int i = 0; i < 10; i++) x.note(i, i % 2, 0);
    for (int i = 0; i < 6; i++) {
      x.turn();
      x.post(4 * i);
      x.post(4 * i + 1);
    }
    x.image(0);
    x.image(1);
    x.enter(3, 4, 0);
    x.image(2);
    x.image(3);
    x.post(63);
    x.post(62);
    Check.tape(x, ("frame 4 4 6;letter 12" + " ".repeat(400)).substring(0, 389) + ";plan 0 0 5");
    return x;
  }

  /** All that can be seen of an object; it is used up by that. */
  private static List<String> seen(PostFrame x) {
    List<String> all = new ArrayList<>();
    for (int what = 0; what < 15; what++) see(all, "count " + what, x.count(what));
    for (int h = 0; h <= x.count(2); h++) {
      for (int what = 0; what < 3; what++) see(all, "hole " + h + " " + what, x.hole(h, what));
    }
    for (int e = 0; e < x.count(3); e++) {
      for (int what = 0; what < 3; what++) see(all, "entry " + e + " " + what, x.entry(e, what));
    }
    for (int p = 0; p <= x.count(4); p++) see(all, "waits " + p, x.waits(p));
    for (int what = 0; what < 2; what++) {
      see(all, "said " + what, x.said(0, what));
      see(all, "ruled " + what, x.ruled(what));
      see(all, "look " + what, x.look(2, what));
      see(all, "posts " + what, x.posts(1, 20, 50, what));
    }
    see(all, "sent", x.sent(0));
    see(all, "sorted", x.sorted());
    see(all, "ahead", x.ahead(0, 3, 0));
    for (int i = 0; i <= 20; i++) {
      see(all, "undo " + i, x.undo());
      for (int what : new int[] {3, 4, 7, 8, 9, 10, 12}) see(all, "undone " + what, x.count(what));
    }
    see(all, "frame of the TAPE", x.frame());
    for (int what = 0; what < 5; what++) see(all, "count by the TAPE " + what, x.count(what));
    see(all, "letter of the TAPE", x.waits(0));
    for (int k = 0; k < 4; k++) {
      see(all, "back " + k, x.back(k));
      for (int what : new int[] {0, 2, 3, 4, 6, 9, 10, 11, 13}) see(all, "image " + k + " " + what, x.count(what));
      see(all, "image " + k + " waits", x.waits(0));
    }
    return all;
  }

  private static void see(List<String> all, String what, int value) {
    all.add(what + ": " + value);
  }

  /** The call answers so, and nothing has changed behind it. */
  static void unchanged(Check check, String call, Supplier<PostFrame> maker, ToIntFunction<PostFrame> act, int want) {
    PostFrame x = maker.get();
    check.due(call, act.applyAsInt(x), want);
    List<String> got = seen(x);
    List<String> due = seen(maker.get());
    int at = 0;
    while (at < got.size() && at < due.size() && got.get(at).equals(due.get(at))) at++;
    boolean same = got.size() == due.size() && at == got.size();
    String first = same ? "" : " (" + (at < got.size() ? got.get(at) : "-") + ", before " + (at < due.size() ? due.get(at) : "-") + ")";
    check.due("changes behind " + call + first, same ? 0 : 1, 0);
    check.due("calls behind " + call, got.size() > 380 ? got.size() : 0, 0);
  }

  /** Told with NONE alone. */
  static void refused(Check check, String call, Supplier<PostFrame> maker, ToIntFunction<PostFrame> act) {
    unchanged(check, call, maker, act, NONE);
  }
}
