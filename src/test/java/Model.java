import java.util.ArrayDeque;
import java.util.ArrayList;
import java.util.Deque;
import java.util.HashMap;
import java.util.HashSet;
import java.util.List;
import java.util.Map;
import java.util.Set;

/**
 * The document once more, as plainly as can be and without a thought of speed: codes are texts of
 * digits, rules are trees, every question is answered by trying all. RunsTest holds PostFrame to it.
 */
final class Model {
  /** A FAULT of a text that was told. */
  private static final class Fault extends RuntimeException {
    private static final long serialVersionUID = 1L;
    final int number;

    Fault(int place, int kind) {
      super(null, null, false, false);
      number = 1 + 8 * place + kind;
    }
  }

  private record Entry(int digits, int prefix, int hole) { }

  private record Note(int turn, int hole, int many) { }

  /** What ACTS change. */
  private static final class State {
    List<Entry> plan = new ArrayList<>();
    List<Integer> row = new ArrayList<>();
    int[] lying = new int[6];
    int[] bags = new int[6];
    int lost;
    int turn;

    State copy() {
      State s = new State();
      s.plan = new ArrayList<>(plan);
      s.row = new ArrayList<>(row);
      s.lying = lying.clone();
      s.bags = bags.clone();
      s.lost = lost;
      s.turn = turn;
      return s;
    }

    int allBags() {
      int sum = 0;
      for (int b : bags) sum += b;
      return sum;
    }
  }

  private static final class Told {
    int radix;
    int length;
    int holes;
    int[] room = {5, 5, 5, 5, 5, 5};
    State begin = new State();

    int codes() {
      return power(radix, length);
    }
  }

  private record Image(Told told, State now, List<Note> notes, int x, int inForce) { }

  private interface Sum {
    long of(Map<String, Long> words);
  }

  private interface Test {
    boolean of(Map<String, Long> words);
  }

  private record Clause(Sum sum, Test test) { }

  private static int power(int base, int exponent) {
    int p = 1;
    for (int i = 0; i < exponent; i++) p *= base;
    return p;
  }

  private static String digits(int number, int radix, int length) {
    StringBuilder b = new StringBuilder();
    for (int i = 0; i < length; i++) {
      b.insert(0, (char) ('0' + number % radix));
      number /= radix;
    }
    return b.toString();
  }

  // ---------------------------------------------------------------- texts

  /** Cuts a text into tokens as it goes. */
  private static class Scanner {
    final String text;
    int at;

    Scanner(String text) {
      this.text = text;
      blanks();
    }

    void blanks() {
      while (at < text.length() && text.charAt(at) == ' ') at++;
    }

    char peek() {
      return at < text.length() ? text.charAt(at) : '\uffff';
    }

    boolean ended() {
      return at == text.length();
    }

    String peekWord() {
      int e = at;
      while (e < text.length() && text.charAt(e) >= 'a' && text.charAt(e) <= 'z') e++;
      return text.substring(at, e);
    }

    boolean word(String w) {
      if (!peekWord().equals(w)) return false;
      at += w.length();
      blanks();
      return true;
    }

    boolean sign(String s) {
      if (!text.startsWith(s, at)) return false;
      at += s.length();
      blanks();
      return true;
    }

    boolean atNumber() {
      return peek() >= '0' && peek() <= '9';
    }

    int number(int least, int most) {
      if (!atNumber()) throw new Fault(at, 0);
      int e = at;
      while (e < text.length() && text.charAt(e) >= '0' && text.charAt(e) <= '9') e++;
      if (e - at > 5) throw new Fault(at, 1);
      int n = Integer.parseInt(text.substring(at, e));
      if (n < least || n > most) throw new Fault(at, 1);
      at = e;
      blanks();
      return n;
    }
  }

  private static Told readFrame(String text) {
    Scanner s = new Scanner(text);
    Told t = null;
    int clauses = 0;
    while (true) {
      String word = s.peekWord();
      int place = s.at;
      if (!List.of("frame", "room", "plan", "letter").contains(word)) throw new Fault(place, 0);
      if (clauses == 40) throw new Fault(place, 4);
      if (word.equals("frame") == (t != null)) throw new Fault(place, 4);
      if (word.equals("plan") && t.begin.plan.size() == 12) throw new Fault(place, 4);
      if (word.equals("letter") && t.begin.row.size() == 12) throw new Fault(place, 4);
      s.word(word);
      switch (word) {
        case "frame" -> {
          t = new Told();
          t.radix = s.number(2, 4);
          t.length = s.number(1, 4);
          t.holes = s.number(1, 6);
        }
        case "room" -> {
          int h = s.number(0, t.holes - 1);
          t.room[h] = s.number(1, 20);
        }
        case "plan" -> {
          int d = s.number(0, t.length);
          int p = s.number(0, power(t.radix, d) - 1);
          putEntry(t.begin.plan, new Entry(d, p, s.number(0, t.holes - 1)));
        }
        default -> t.begin.row.add(s.number(0, t.codes() - 1));
      }
      clauses++;
      if (s.ended()) return t;
      if (!s.sign(";")) throw new Fault(s.at, 0);
    }
  }

  private static int putEntry(List<Entry> plan, Entry e) {
    for (int i = 0; i < plan.size(); i++) {
      if (plan.get(i).digits == e.digits && plan.get(i).prefix == e.prefix) {
        plan.set(i, e);
        return i;
      }
    }
    plan.add(e);
    return plan.size() - 1;
  }

  private static final class RuleScanner extends Scanner {
    int parts;

    RuleScanner(String text) {
      super(text);
    }

    List<Clause> rule() {
      List<Clause> clauses = new ArrayList<>();
      while (true) {
        int place = at;
        if (!word("take")) throw new Fault(place, 0);
        if (clauses.size() == 12) throw new Fault(place, 4);
        Sum sum = sum();
        Test test = word("if") ? test(0) : null;
        clauses.add(new Clause(sum, test));
        if (ended()) return clauses;
        if (!sign(";")) throw new Fault(at, 0);
      }
    }

    Test test(int depth) {
      Test left = part(depth);
      while (word("or")) {
        Test l = left;
        Test r = part(depth);
        left = w -> l.of(w) || r.of(w);
      }
      return left;
    }

    Test part(int depth) {
      Test left = fact(depth);
      while (word("and")) {
        Test l = left;
        Test r = fact(depth);
        left = w -> l.of(w) && r.of(w);
      }
      return left;
    }

    Test fact(int depth) {
      int place = at;
      if (word("not")) {
        if (depth == 10) throw new Fault(place, 2);
        Test t = fact(depth + 1);
        return w -> !t.of(w);
      }
      if (sign("[")) {
        if (depth == 10) throw new Fault(place, 2);
        Test t = test(depth + 1);
        if (!sign("]")) throw new Fault(at, 0);
        return t;
      }
      Sum l = sum();
      int signPlace = at;
      for (String s : new String[] {"<=", ">=", "<", ">", "="}) {
        if (sign(s)) {
          more(signPlace);
          Sum r = sum();
          return w -> holds(s, Long.compare(l.of(w), r.of(w)));
        }
      }
      throw new Fault(at, 0);
    }

    private static boolean holds(String sign, int order) {
      return switch (sign) {
        case "<" -> order < 0;
        case "<=" -> order <= 0;
        case "=" -> order == 0;
        case ">=" -> order >= 0;
        default -> order > 0;
      };
    }

    private void more(int place) {
      if (++parts > 60) throw new Fault(place, 3);
    }

    Sum sum() {
      Sum left = term();
      while (true) {
        Sum l = left;
        if (sign("+")) {
          Sum r = term();
          left = w -> l.of(w) + r.of(w);
        } else if (sign("-")) {
          Sum r = term();
          left = w -> l.of(w) - r.of(w);
        } else {
          return left;
        }
      }
    }

    Sum term() {
      Sum left = value();
      while (true) {
        Sum l = left;
        if (sign("*")) {
          Sum r = value();
          left = w -> l.of(w) * r.of(w);
        } else if (sign("/")) {
          Sum r = value();
          left = w -> r.of(w) == 0 ? 0 : l.of(w) / r.of(w);
        } else if (sign("%")) {
          Sum r = value();
          left = w -> r.of(w) == 0 ? 0 : l.of(w) % r.of(w);
        } else {
          return left;
        }
      }
    }

    Sum value() {
      int place = at;
      if (atNumber()) {
        long n = number(0, 99999);
        more(place);
        return w -> n;
      }
      String word = peekWord();
      if (!List.of("place", "code", "first", "last", "hole", "lying", "room", "fit", "waiting", "bags", "turn")
          .contains(word)) {
        throw new Fault(place, 0);
      }
      more(place);
      word(word);
      return w -> w.get(word);
    }
  }

  // ---------------------------------------------------------------- state

  private final StringBuilder tape = new StringBuilder();
  private Told told;
  private State now = new State();
  private List<Note> notes = new ArrayList<>();
  private int x;
  private int inForce = -1;
  private final List<List<Clause>> rules = new ArrayList<>();
  private Deque<State> acts = new ArrayDeque<>();
  private final Image[] images = new Image[4];

  int feed(int a, int b, int c, int d, int e) {
    if (tape.length() > 380) return -1;
    for (int n : new int[] {a, b, c, d, e}) {
      tape.append((char) (n >>> 24)).append((char) (n >>> 16 & 255)).append((char) (n >>> 8 & 255))
          .append((char) (n & 255));
    }
    return tape.length();
  }

  int end(int n) {
    if (n < 0 || n > tape.length()) return -1;
    tape.setLength(n);
    return n;
  }

  int frame() {
    String text = tape.toString();
    tape.setLength(0);
    try {
      told = readFrame(text);
    } catch (Fault f) {
      return -2 - f.number;
    }
    now = told.begin.copy();
    notes = new ArrayList<>();
    acts.clear();
    return now.plan.size();
  }

  int rule() {
    if (rules.size() == 6) return -1;
    String text = tape.toString();
    tape.setLength(0);
    try {
      rules.add(new RuleScanner(text).rule());
    } catch (Fault f) {
      return -2 - f.number;
    }
    return rules.size() - 1;
  }

  int force(int rule) {
    if (rule < -1 || rule >= rules.size()) return -2;
    int was = inForce;
    inForce = rule;
    return was;
  }

  private boolean isHole(int h) {
    return told != null && h >= 0 && h < told.holes;
  }

  private boolean isCode(int c) {
    return told != null && c >= 0 && c < told.codes();
  }

  int hole(int hole, int what) {
    if (!isHole(hole)) return -1;
    return switch (what) {
      case 0 -> told.room[hole];
      case 1 -> now.lying[hole];
      case 2 -> now.bags[hole];
      default -> -1;
    };
  }

  int entry(int entry, int what) {
    if (entry < 0 || entry >= now.plan.size()) return -1;
    Entry e = now.plan.get(entry);
    return switch (what) {
      case 0 -> e.digits;
      case 1 -> e.prefix;
      case 2 -> e.hole;
      default -> -1;
    };
  }

  int waits(int place) {
    return place < 0 || place >= now.row.size() ? -1 : now.row.get(place);
  }

  // ---------------------------------------------------------------- TURNS

  /** The ENTRY by which a CODE GOES, or null. */
  private Entry by(List<Entry> plan, int code) {
    String own = digits(code, told.radix, told.length);
    Entry best = null;
    for (Entry e : plan) {
      if (own.startsWith(digits(e.prefix, told.radix, e.digits)) && (best == null || e.digits > best.digits)) best = e;
    }
    return best;
  }

  private int to(List<Entry> plan, int code) {
    Entry e = by(plan, code);
    return e == null ? -1 : e.hole;
  }

  private List<Clause> ruleOf(int number) {
    return number < 0 ? null : rules.get(number);
  }

  private int chosen(State s, int[] room, List<Clause> rule) {
    if (rule == null) return s.row.isEmpty() ? -1 : 0;
    int best = -1;
    long most = 0;
    for (int place = 0; place < s.row.size(); place++) {
      int code = s.row.get(place);
      String own = digits(code, told.radix, told.length);
      Entry e = by(s.plan, code);
      Map<String, Long> w = new HashMap<>();
      w.put("place", (long) place);
      w.put("code", (long) code);
      w.put("first", (long) (own.charAt(0) - '0'));
      w.put("last", (long) (own.charAt(own.length() - 1) - '0'));
      w.put("hole", e == null ? -1L : e.hole);
      w.put("lying", e == null ? 0L : s.lying[e.hole]);
      w.put("room", e == null ? 0L : room[e.hole]);
      w.put("fit", e == null ? 0L : e.digits);
      w.put("waiting", (long) s.row.size());
      w.put("bags", (long) s.allBags());
      w.put("turn", (long) s.turn);
      long value = 0;
      for (Clause c : rule) {
        if (c.test == null || c.test.of(w)) {
          value = c.sum.of(w);
          break;
        }
      }
      if (value > most) {
        most = value;
        best = place;
      }
    }
    return best;
  }

  /** Lays a LETTER into its HOLE: the HOLE that is TIED for it, or -1. */
  private static int lay(State s, int[] room, int hole) {
    int tied = -1;
    if (hole < 0) {
      s.lost++;
      return -1;
    }
    if (s.lying[hole] >= room[hole]) {
      s.bags[hole] = Math.min(999, s.bags[hole] + 1);
      s.lying[hole] = 0;
      tied = hole;
    }
    s.lying[hole]++;
    return tied;
  }

  /** A TURN: {CODE that is taken or -2, HOLE that is TIED or -1}. */
  private int[] go(State s, int[] room, List<Clause> rule) {
    int place = chosen(s, room, rule);
    s.turn++;
    if (place < 0) return new int[] {-2, -1};
    int code = s.row.remove(place);
    return new int[] {code, lay(s, room, to(s.plan, code))};
  }

  private void keep() {
    acts.push(now.copy());
    if (acts.size() > 20) acts.removeLast();
  }

  int turn() {
    if (told == null || now.turn == 999) return -1;
    keep();
    return go(now, told.room, ruleOf(inForce))[0];
  }

  int post(int code) {
    if (!isCode(code) || now.row.size() == 20) return -1;
    keep();
    now.row.add(code);
    return now.row.size();
  }

  int tie(int hole) {
    if (!isHole(hole) || now.lying[hole] == 0) return -1;
    keep();
    int many = now.lying[hole];
    now.lying[hole] = 0;
    now.bags[hole] = Math.min(999, now.bags[hole] + 1);
    return many;
  }

  private boolean canEnter(int digits, int prefix, int hole) {
    if (!isHole(hole) || digits < 0 || digits > told.length) return false;
    if (prefix < 0 || prefix >= power(told.radix, digits)) return false;
    if (now.plan.size() < 12) return true;
    return now.plan.stream().anyMatch(e -> e.digits == digits && e.prefix == prefix);
  }

  int enter(int digits, int prefix, int hole) {
    if (!canEnter(digits, prefix, hole)) return -1;
    keep();
    return putEntry(now.plan, new Entry(digits, prefix, hole));
  }

  int strike(int entry) {
    if (entry < 0 || entry >= now.plan.size()) return -1;
    keep();
    now.plan.remove(entry);
    return now.plan.size();
  }

  int undo() {
    if (acts.isEmpty()) return -1;
    now = acts.pop();
    return acts.size();
  }

  // ---------------------------------------------------------------- by the PLAN

  int where(int code, int what) {
    if (!isCode(code) || what < 0 || what > 1) return -1;
    Entry e = by(now.plan, code);
    return e == null ? -2 : what == 0 ? e.hole : e.digits;
  }

  /** The READING as a text of digits, or null. */
  private String reading(int reading) {
    if (told == null || reading < 0 || reading >= power(10, told.length)) return null;
    String r = digits(reading, 10, told.length);
    for (char c : r.toCharArray()) {
      if (c != '9' && c - '0' >= told.radix) return null;
    }
    return r;
  }

  private List<Integer> meant(String reading) {
    List<Integer> codes = new ArrayList<>();
    for (int code = 0; code < told.codes(); code++) {
      if (digits(code, told.radix, told.length).matches(reading.replace('9', '.'))) codes.add(code);
    }
    return codes;
  }

  int may(int reading) {
    String r = reading(reading);
    if (r == null) return -1;
    int bits = 0;
    for (int code : meant(r)) bits |= to(now.plan, code) < 0 ? 64 : 1 << to(now.plan, code);
    return bits;
  }

  int read(int reading, int what) {
    String r = reading(reading);
    if (r == null || what < 0 || what > 1) return -1;
    Map<Integer, Integer> goes = new HashMap<>();
    for (int code : meant(r)) goes.put(code, to(now.plan, code));
    for (int many = 0; many <= told.length; many++) {
      for (int set = 0; set < 1 << told.length; set++) {
        if (Integer.bitCount(set) == many && reads(r, set, goes)) return what == 0 ? many : set;
      }
    }
    throw new IllegalStateException("all smudged digits read decide all");
  }

  private boolean reads(String r, int set, Map<Integer, Integer> goes) {
    Map<String, Integer> seen = new HashMap<>();
    for (int i = 0; i < told.length; i++) {
      if ((set >> i & 1) == 1 && r.charAt(i) != '9') return false;
    }
    for (Map.Entry<Integer, Integer> g : goes.entrySet()) {
      StringBuilder key = new StringBuilder();
      String own = digits(g.getKey(), told.radix, told.length);
      for (int i = 0; i < told.length; i++) {
        if ((set >> i & 1) == 1) key.append(own.charAt(i));
      }
      Integer before = seen.putIfAbsent(key.toString(), g.getValue());
      if (before != null && !before.equals(g.getValue())) return false;
    }
    return true;
  }

  int codes(int hole, int what) {
    if (told == null || hole != -1 && !isHole(hole) || what < 0 || what > 1) return -3;
    int many = 0;
    int least = -2;
    for (int code = told.codes() - 1; code >= 0; code--) {
      if (to(now.plan, code) == hole) {
        many++;
        least = code;
      }
    }
    return what == 0 ? many : least;
  }

  private int[] goals() {
    int[] goal = new int[told.codes()];
    for (int code = 0; code < goal.length; code++) goal[code] = to(now.plan, code);
    return goal;
  }

  private int slipsBy(int[] goal, int code) {
    int many = 0;
    String own = digits(code, told.radix, told.length);
    for (int other = 0; other < goal.length; other++) {
      String theirs = digits(other, told.radix, told.length);
      int differ = 0;
      for (int i = 0; i < told.length; i++) {
        if (own.charAt(i) != theirs.charAt(i)) differ++;
      }
      if (differ == 1 && goal[other] != goal[code]) many++;
    }
    return many;
  }

  int slips(int code) {
    return isCode(code) ? slipsBy(goals(), code) : -1;
  }

  int worst(int what) {
    if (told == null || what < 0 || what > 1) return -1;
    int[] goal = goals();
    int worst = -1;
    int most = -1;
    for (int code = 0; code < goal.length; code++) {
      int s = slipsBy(goal, code);
      if (s > most) {
        most = s;
        worst = code;
      }
    }
    return what == 0 ? worst : most;
  }

  int idle() {
    if (told == null) return -1;
    Set<Entry> used = new HashSet<>();
    for (int code = 0; code < told.codes(); code++) used.add(by(now.plan, code));
    int bits = 0;
    for (int i = 0; i < now.plan.size(); i++) {
      if (!used.contains(now.plan.get(i))) bits |= 1 << i;
    }
    return bits;
  }

  int least() {
    return told == null ? -1 : fewest("", -1, goals(), new HashMap<>());
  }

  /** ENTRIES needed at and below a PREFIX, if those above it send it to a HOLE (or nowhere). */
  private int fewest(String prefix, int given, int[] goal, Map<String, Integer> known) {
    String key = prefix + ":" + given;
    if (known.containsKey(key)) return known.get(key);
    int best = below(prefix, given, goal, known);
    for (int h = 0; h < told.holes; h++) best = Math.min(best, 1 + below(prefix, h, goal, known));
    known.put(key, best);
    return best;
  }

  private int below(String prefix, int given, int[] goal, Map<String, Integer> known) {
    if (prefix.length() == told.length) {
      return goal[prefix.isEmpty() ? 0 : Integer.parseInt(prefix, told.radix)] == given ? 0 : 100000;
    }
    int sum = 0;
    for (int d = 0; d < told.radix; d++) sum += fewest(prefix + d, given, goal, known);
    return Math.min(sum, 100000);
  }

  /** {LOST, TIED} if all that wait were taken at once by a PLAN. */
  private int[] atOnce(List<Entry> plan) {
    State s = now.copy();
    int lost = 0;
    int tied = 0;
    for (int code : now.row) {
      int h = to(plan, code);
      if (h < 0) lost++;
      else if (lay(s, told.room, h) >= 0) tied++;
    }
    return new int[] {lost, tied};
  }

  int one(int what) {
    if (told == null || what < 0 || what > 4) return -2;
    int[] r = atOnce(now.plan);
    int[] best = {r[0], r[1], -1, -1, -1};
    for (int d = 0; d <= told.length; d++) {
      for (int p = 0; p < power(told.radix, d); p++) {
        for (int h = 0; h < told.holes; h++) {
          if (!canEnter(d, p, h)) continue;
          List<Entry> plan = new ArrayList<>(now.plan);
          putEntry(plan, new Entry(d, p, h));
          r = atOnce(plan);
          if (r[0] < best[0] || r[0] == best[0] && r[1] < best[1]) best = new int[] {r[0], r[1], d, p, h};
        }
      }
    }
    return best[what];
  }

  int change(int what) {
    if (told == null || what < 0 || what > 2) return -2;
    int[] best = {atOnce(now.plan)[1], -1, -1};
    for (int a = 0; a < told.holes; a++) {
      for (int b = a + 1; b < told.holes; b++) {
        List<Entry> plan = new ArrayList<>();
        for (Entry e : now.plan) {
          plan.add(new Entry(e.digits, e.prefix, e.hole == a ? b : e.hole == b ? a : e.hole));
        }
        int tied = atOnce(plan)[1];
        if (tied < best[0]) best = new int[] {tied, a, b};
      }
    }
    return best[what];
  }

  // ---------------------------------------------------------------- how it goes on

  int ahead(int hole, int n, int what) {
    if (told == null || what < 0 || what > 3 || what == 0 && !isHole(hole) || n < 0 || n > 100) return -1;
    State s = now.copy();
    for (int i = 0; i < n; i++) go(s, told.room, ruleOf(inForce));
    return switch (what) {
      case 0 -> s.lying[hole];
      case 1 -> s.row.size();
      case 2 -> s.allBags();
      default -> s.lost;
    };
  }

  int sorted() {
    if (told == null) return -1;
    State s = now.copy();
    for (int i = 0; i < 200; i++) {
      go(s, told.room, ruleOf(inForce));
      if (s.row.isEmpty()) return now.turn + i;
    }
    return -2;
  }

  private int firstTied(int hole, int[] room, int turns) {
    State s = now.copy();
    for (int i = 0; i < turns; i++) {
      if (go(s, room, ruleOf(inForce))[1] == hole) return now.turn + i;
    }
    return -2;
  }

  int tied(int hole) {
    return isHole(hole) ? firstTied(hole, told.room, 200) : -1;
  }

  int enough(int hole, int n) {
    if (!isHole(hole) || n < 1 || n > 40) return -1;
    int[] room = told.room.clone();
    for (room[hole] = 1; room[hole] <= 20; room[hole]++) {
      if (firstTied(hole, room, n) == -2) return room[hole];
    }
    return -2;
  }

  // ---------------------------------------------------------------- what can have been

  /** What lay in the HOLES behind each of the TURNS 0 to 60 from a begin on. */
  private int[][] history(State begin, List<Clause> rule) {
    int[][] h = new int[61][];
    State s = begin.copy();
    for (int i = 0; i <= 60; i++) {
      go(s, told.room, rule);
      h[i] = s.lying.clone();
    }
    return h;
  }

  private boolean fits(State begin, List<Clause> rule) {
    int[][] h = history(begin, rule);
    for (Note n : notes) {
      if (h[n.turn][n.hole] != n.many) return false;
    }
    return true;
  }

  int said(int letter, int what) {
    if (told == null || letter < 0 || letter >= told.begin.row.size() || what < 0 || what > 1) return -1;
    int many = 0;
    int least = -2;
    for (int code = told.codes() - 1; code >= 0; code--) {
      State s = told.begin.copy();
      s.row.set(letter, code);
      if (fits(s, ruleOf(inForce))) {
        many++;
        least = code;
      }
    }
    return what == 0 ? many : least;
  }

  int sent(int entry) {
    if (told == null || entry < 0 || entry >= told.begin.plan.size()) return -1;
    int bits = 0;
    for (int h = 0; h < told.holes; h++) {
      State s = told.begin.copy();
      Entry e = s.plan.get(entry);
      s.plan.set(entry, new Entry(e.digits, e.prefix, h));
      if (fits(s, ruleOf(inForce))) bits |= 1 << h;
    }
    return bits;
  }

  int pence(int much, int hole) {
    if (!isHole(hole) || much < 0 || much > 9999) return -1;
    int all = now.allBags();
    if (all == 0) return 0;
    int[] part = new int[told.holes];
    List<Integer> order = new ArrayList<>();
    int left = much;
    for (int h = 0; h < told.holes; h++) {
      part[h] = much * now.bags[h] / all;
      left -= part[h];
      order.add(h);
    }
    order.sort((a, b) -> Integer.compare(much * now.bags[b] % all, much * now.bags[a] % all));
    for (int i = 0; i < left; i++) part[order.get(i)]++;
    return part[hole];
  }

  int note(int n, int hole, int many) {
    if (n == -1) {
      notes = new ArrayList<>();
      return 0;
    }
    if (n < 0 || n > 60 || !isHole(hole) || many < 0 || many > 20 || notes.size() == 10) return -2;
    notes.add(new Note(n, hole, many));
    return notes.size();
  }

  private List<Integer> possible() {
    List<Integer> p = new ArrayList<>();
    for (int r = -1; r < rules.size(); r++) {
      if (fits(told.begin, ruleOf(r))) p.add(r);
    }
    return p;
  }

  int ruled(int what) {
    if (told == null || what < 0 || what > 1) return -3;
    List<Integer> p = possible();
    return what == 0 ? p.size() : p.isEmpty() ? -2 : p.get(0);
  }

  int look(int n, int what) {
    if (told == null || n < 0 || n > 60 || what < 0 || what > 1) return -1;
    List<Integer> p = possible();
    if (p.isEmpty()) return -2;
    int bestHole = -1;
    int fewest = 99;
    for (int h = 0; h < told.holes; h++) {
      Map<Integer, Integer> groups = new HashMap<>();
      for (int r : p) groups.merge(history(told.begin, ruleOf(r))[n][h], 1, Integer::sum);
      int most = 0;
      for (int g : groups.values()) most = Math.max(most, g);
      if (most < fewest) {
        fewest = most;
        bestHole = h;
      }
    }
    return what == 0 ? bestHole : fewest;
  }

  // ---------------------------------------------------------------- DRAWS, IMAGES

  int seed(int s) {
    if (s < 0) return -1;
    int was = x;
    x = s;
    return was;
  }

  int posts(int m, int n, int p, int what) {
    if (told == null || m < 1 || m > 10 || n < 1 || n > 60 || p < 0 || p > 100 || what < 0 || what > 1) return -1;
    long y = x;
    int bags = 0;
    int lost = 0;
    for (int i = 0; i < m; i++) {
      State s = now.copy();
      for (int j = 0; j < n; j++) {
        y = (y * 1103515245L + 12345) % 2147483648L;
        if (y / 65536 % 100 < p) {
          y = (y * 1103515245L + 12345) % 2147483648L;
          if (s.row.size() < 20) s.row.add((int) (y / 65536 % told.codes()));
        }
        go(s, told.room, ruleOf(inForce));
      }
      bags += s.allBags();
      lost += s.lost;
    }
    return what == 0 ? bags : lost;
  }

  int count(int what) {
    int lying = 0;
    for (int l : now.lying) lying += l;
    return switch (what) {
      case 0 -> told == null ? 0 : told.radix;
      case 1 -> told == null ? 0 : told.length;
      case 2 -> told == null ? 0 : told.holes;
      case 3 -> now.plan.size();
      case 4 -> now.row.size();
      case 5 -> rules.size();
      case 6 -> inForce;
      case 7 -> now.turn;
      case 8 -> lying;
      case 9 -> now.allBags();
      case 10 -> now.lost;
      case 11 -> notes.size();
      case 12 -> acts.size();
      case 13 -> x;
      case 14 -> tape.length();
      default -> -1;
    };
  }

  int image(int k) {
    if (k < 0 || k > 3) return -1;
    images[k] = new Image(told, now.copy(), new ArrayList<>(notes), x, inForce);
    return now.turn;
  }

  int back(int k) {
    if (k < 0 || k > 3 || images[k] == null) return -1;
    told = images[k].told;
    now = images[k].now.copy();
    notes = new ArrayList<>(images[k].notes);
    x = images[k].x;
    inForce = images[k].inForce;
    acts = new ArrayDeque<>();
    return now.turn;
  }
}
