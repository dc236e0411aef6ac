import java.math.BigInteger;
import java.util.ArrayList;
import java.util.Comparator;
import java.util.List;
import java.util.TreeSet;
import java.util.regex.Matcher;
import java.util.regex.Pattern;

/**
 * The document once more, as slow and plain as can be and by other means than the class (flood
 * fills, regular expressions, determinants, big numbers), so that the two can be held together.
 */
final class Oracle {
  private static final Pattern FORM =
      Pattern.compile("(?:h[0-9];|[kxf][0-9];|l[0-9]{5}[0-9]?,[0-9]{1,2};)+");
  private static final String[] KINDS = {"LANE", "DOUBLE", "TOLL", "ONE", "SNOWY", "WIDE"};

  private static final class Lane {
    String kind;
    int from;
    int to;
    int w;
    int c;
    int d;
    int rule;

    Lane copy() {
      Lane copy = new Lane();
      copy.kind = kind;
      copy.from = from;
      copy.to = to;
      copy.w = w;
      copy.c = c;
      copy.d = d;
      copy.rule = rule;
      return copy;
    }

    int weight() {
      return switch (kind) {
        case "DOUBLE" -> w + w;
        case "WIDE" -> w + w + 1;
        default -> w;
      };
    }

    int cost() {
      return switch (kind) {
        case "TOLL" -> 10 + c;
        case "SNOWY" -> 20 + c + c;
        case "WIDE" -> (c - c % 2) / 2;
        default -> c;
      };
    }

    int drift() {
      return kind.equals("SNOWY") ? (d > 79 ? 99 : d + 20) : d;
    }

    boolean leaves(int house) {
      return from == house || to == house && !kind.equals("ONE");
    }
  }

  private int houses = 3;
  private List<Lane> lanes = new ArrayList<>();
  private int imageHouses = -1;
  private List<Lane> imageLanes;
  private String letters = "";
  private List<Integer> row = new ArrayList<>();
  private final int[] refused = new int[7];
  private int z;
  private List<Integer> waysKept;

  private int no(int number) {
    refused[-number]++;
    return number;
  }

  private long noLong(int number) {
    return 4000000000000000000L - no(number);
  }

  private static List<Lane> copy(List<Lane> lanes) {
    List<Lane> copy = new ArrayList<>();
    for (Lane lane : lanes) {
      copy.add(lane.copy());
    }
    return copy;
  }

  int feed(int letter) {
    if (letter < 0) {
      return no(-4);
    }
    if (letter > 255 || letters.length() >= 72) {
      return no(-6);
    }
    letters += (char) letter;
    return letters.length();
  }

  int village() {
    String text = letters;
    letters = "";
    for (int length = 1; length <= text.length(); length++) {
      Matcher matcher = FORM.matcher(text.substring(0, length));
      if (!matcher.matches() && !matcher.hitEnd()) {
        return -1000 - (length - 1);
      }
    }
    if (!FORM.matcher(text).matches()) {
      return -1000 - text.length();
    }
    int housesWere = houses;
    List<Lane> lanesWere = copy(lanes);
    int place = 0;
    int told = 0;
    for (String statement : text.split(";")) {
      if (!tell(statement)) {
        houses = housesWere;
        lanes = lanesWere;
        return -2000 - place;
      }
      place += statement.length() + 1;
      told++;
    }
    waysKept = null;
    return told;
  }

  private boolean tell(String statement) {
    String rest = statement.substring(1);
    if (statement.charAt(0) == 'l') {
      return tellLane(rest);
    }
    int number = Integer.parseInt(rest);
    if (statement.charAt(0) == 'h') {
      for (Lane lane : lanes) {
        if (lane.from >= number || lane.to >= number) {
          return false;
        }
      }
      houses = number;
      return number >= 2 && number <= 7;
    }
    if (number >= lanes.size()) {
      return false;
    }
    lanes.get(number).rule = "fkx".indexOf(statement.charAt(0));
    return true;
  }

  private boolean tellLane(String rest) {
    Lane lane = new Lane();
    int kind = rest.charAt(0) - '0';
    lane.from = rest.charAt(1) - '0';
    lane.to = rest.charAt(2) - '0';
    lane.w = rest.charAt(3) - '0';
    String[] numbers = rest.substring(4).split(",");
    lane.c = Integer.parseInt(numbers[0]);
    lane.d = Integer.parseInt(numbers[1]);
    if (kind > 5 || lane.from >= houses || lane.to >= houses || lane.from == lane.to
        || lane.w == 0 || lane.w > 4 || lanes.size() == 10) {
      return false;
    }
    lane.kind = KINDS[kind];
    lanes.add(lane);
    return true;
  }

  private boolean isLane(int lane) {
    return lane >= 0 && lane < lanes.size();
  }

  private boolean isHouse(int house) {
    return house >= 0 && house < houses;
  }

  int lane(int lane, int what) {
    if (!isLane(lane)) {
      return no(-1);
    }
    Lane of = lanes.get(lane);
    return switch (what) {
      case 0 -> List.of(KINDS).indexOf(of.kind);
      case 1 -> of.from;
      case 2 -> of.to;
      case 3 -> of.weight();
      case 4 -> of.cost();
      case 5 -> of.drift();
      case 6 -> of.rule;
      default -> no(-2);
    };
  }

  int rule(int lane, int as) {
    if (!isLane(lane)) {
      return no(-1);
    }
    if (as != 0 && as != 1 && as != 2) {
      return no(-2);
    }
    int was = lanes.get(lane).rule;
    lanes.get(lane).rule = as;
    waysKept = null;
    return was;
  }

  int takeUp() {
    if (lanes.isEmpty()) {
      return no(-3);
    }
    lanes.remove(lanes.size() - 1);
    waysKept = null;
    return lanes.size();
  }

  private static boolean has(int bits, int i) {
    return (bits >>> i & 1) == 1;
  }

  private boolean areLanes(int bits) {
    for (int i = 0; i < 32; i++) {
      if (has(bits, i) && i >= lanes.size()) {
        return false;
      }
    }
    return true;
  }

  /** The houses (bits) that a flood from a house comes to by these lanes. */
  private int flood(int bits, int house) {
    int come = 1 << house;
    for (int round = 0; round < houses; round++) {
      for (int i = 0; i < lanes.size(); i++) {
        Lane lane = lanes.get(i);
        if (has(bits, i) && (has(come, lane.from) || has(come, lane.to))) {
          come |= 1 << lane.from | 1 << lane.to;
        }
      }
    }
    return come;
  }

  private int partsOf(int bits) {
    TreeSet<Integer> floods = new TreeSet<>();
    for (int house = 0; house < houses; house++) {
      floods.add(flood(bits, house));
    }
    return floods.size();
  }

  /** A lane is in a ring, if its ends stay together without it. */
  private boolean ring(int bits) {
    for (int i = 0; i < lanes.size(); i++) {
      if (has(bits, i) && has(flood(bits & ~(1 << i), lanes.get(i).from), lanes.get(i).to)) {
        return true;
      }
    }
    return false;
  }

  private boolean rulesHold(int bits, boolean mustMatters) {
    for (int i = 0; i < lanes.size(); i++) {
      int rule = lanes.get(i).rule;
      if (rule == 2 && has(bits, i) || rule == 1 && mustMatters && !has(bits, i)) {
        return false;
      }
    }
    return true;
  }

  private boolean isWay(int bits) {
    return areLanes(bits) && rulesHold(bits, true) && partsOf(bits) == 1 && !ring(bits);
  }

  int is(int bits) {
    return areLanes(bits) ? (isWay(bits) ? 1 : 0) : no(-1);
  }

  int hangs(int bits) {
    return areLanes(bits) ? (partsOf(bits) == 1 ? 1 : 0) : no(-1);
  }

  int parts(int bits) {
    return areLanes(bits) ? partsOf(bits) : no(-1);
  }

  private List<Integer> ways() {
    if (waysKept == null) {
      waysKept = new ArrayList<>();
      for (int bits = 0; bits < 1 << lanes.size(); bits++) {
        if (Integer.bitCount(bits) == houses - 1 && isWay(bits)) {
          waysKept.add(bits);
        }
      }
    }
    return waysKept;
  }

  private long worth(int bits) {
    long worth = 1;
    for (int i = 0; i < lanes.size(); i++) {
      worth *= has(bits, i) ? lanes.get(i).weight() : 1;
    }
    return worth;
  }

  private int cost(int bits) {
    int cost = 0;
    for (int i = 0; i < lanes.size(); i++) {
      cost += has(bits, i) ? lanes.get(i).cost() : 0;
    }
    return cost;
  }

  private BigInteger sumHaving(int kept, int left) {
    BigInteger sum = BigInteger.ZERO;
    for (int way : ways()) {
      if ((way & kept) == kept && (way & left) == 0) {
        sum = sum.add(BigInteger.valueOf(worth(way)));
      }
    }
    return sum;
  }

  int many() {
    return ways().size();
  }

  long sum() {
    return sumHaving(0, 0).longValueExact();
  }

  int way(int i) {
    if (i < 0) {
      return no(-4);
    }
    return i < ways().size() ? ways().get(i) : -9;
  }

  private static long fraction(BigInteger above, BigInteger below, int part) {
    BigInteger common = above.gcd(below);
    return (part == 0 ? above : below).divide(common).longValueExact();
  }

  long likely(int lane, int part) {
    return isLane(lane) ? pair(lane, lane, part) : noLong(-1);
  }

  long pair(int one, int other, int part) {
    if (!isLane(one) || !isLane(other)) {
      return noLong(-1);
    }
    if (part != 0 && part != 1) {
      return noLong(-2);
    }
    if (ways().isEmpty()) {
      return noLong(-3);
    }
    return fraction(sumHaving(1 << one | 1 << other, 0), sumHaving(0, 0), part);
  }

  int less(int one, int other) {
    if (!isLane(one) || !isLane(other) || one == other) {
      return no(-1);
    }
    if (ways().isEmpty()) {
      return no(-3);
    }
    BigInteger both = sumHaving(1 << one | 1 << other, 0).multiply(sumHaving(0, 0));
    BigInteger apiece = sumHaving(1 << one, 0).multiply(sumHaving(1 << other, 0));
    return new int[] {1, 0, 2}[both.compareTo(apiece) + 1];
  }

  int inAll() {
    int bits = 0;
    for (int i = 0; i < lanes.size(); i++) {
      int having = 0;
      for (int way : ways()) {
        having += way >> i & 1;
      }
      bits |= having > 0 && having == ways().size() ? 1 << i : 0;
    }
    return bits;
  }

  int inNone() {
    int bits = 0;
    for (int i = 0; i < lanes.size(); i++) {
      bits |= sumHaving(1 << i, 0).signum() == 0 ? 1 << i : 0;
    }
    return bits;
  }

  private List<Integer> byCost() {
    List<Integer> sorted = new ArrayList<>(ways());
    sorted.sort(Comparator.<Integer>comparingInt(this::cost).thenComparingInt(way -> way));
    return sorted;
  }

  int cheap(int i, int what) {
    if (what != 0 && what != 1) {
      return no(-2);
    }
    if (i < 0) {
      return no(-4);
    }
    if (i >= ways().size()) {
      return -9;
    }
    return what == 0 ? byCost().get(i) : cost(byCost().get(i));
  }

  int nights(int from, int to) {
    if (!isWay(from) || !isWay(to)) {
      return no(-3);
    }
    int nights = 0;
    for (int i = 0; i < 10; i++) {
      nights += has(from, i) && !has(to, i) ? 1 : 0;
    }
    return nights;
  }

  int step(int from, int to) {
    if (!isWay(from) || !isWay(to)) {
      return no(-3);
    }
    if (from == to) {
      return from;
    }
    TreeSet<Integer> found = new TreeSet<>();
    for (int give = 0; give < 10; give++) {
      for (int keep = 0; keep < 10; keep++) {
        if (has(from, give) && !has(to, give) && has(to, keep)) {
          int next = from & ~(1 << give) | 1 << keep;
          if (isWay(next)) {
            found.add(next);
          }
        }
      }
    }
    return found.first();
  }

  long toward(int house, int what) {
    if (!isHouse(house)) {
      return noLong(-1);
    }
    if (what != 0 && what != 1) {
      return noLong(-2);
    }
    TreeSet<Integer> found = new TreeSet<>();
    chooseOn(0, house, new int[houses], 0, found);
    long sum = 0;
    for (int bits : found) {
      sum += what == 0 ? 1 : worth(bits);
    }
    return sum;
  }

  /** Lets each other house choose the lane that goes on from it. */
  private void chooseOn(int at, int house, int[] next, int bits, TreeSet<Integer> found) {
    if (at == houses) {
      if (allCome(house, next) && rulesHold(bits, true)) {
        found.add(bits);
      }
      return;
    }
    if (at == house) {
      next[at] = at;
      chooseOn(at + 1, house, next, bits, found);
      return;
    }
    for (int i = 0; i < lanes.size(); i++) {
      Lane lane = lanes.get(i);
      if (lane.leaves(at) && !has(bits, i)) {
        next[at] = lane.from + lane.to - at;
        chooseOn(at + 1, house, next, bits | 1 << i, found);
      }
    }
  }

  private boolean allCome(int house, int[] next) {
    for (int start = 0; start < houses; start++) {
      int at = start;
      for (int i = 0; i < houses; i++) {
        at = next[at];
      }
      if (at != house) {
        return false;
      }
    }
    return true;
  }

  int forests(int k) {
    if (k < 1) {
      return no(-4);
    }
    if (k > 7) {
      return no(-6);
    }
    int many = 0;
    for (int bits = 0; bits < 1 << lanes.size(); bits++) {
      many += rulesHold(bits, true) && partsOf(bits) == k && !ring(bits) ? 1 : 0;
    }
    return many;
  }

  int ploughs(int told) {
    if (told == 0 || told < 0 || told >= 1 << houses) {
      return no(-1);
    }
    int many = 0;
    for (int bits = 0; bits < 1 << lanes.size(); bits++) {
      boolean one = rulesHold(bits, true) && !ring(bits);
      for (int house = 0; one && house < houses; house++) {
        one = Integer.bitCount(flood(bits, house) & told) == 1;
      }
      many += one ? 1 : 0;
    }
    return many;
  }

  private BigInteger sumApart(int one, int other, boolean mustMatters) {
    BigInteger sum = BigInteger.ZERO;
    for (int bits = 0; bits < 1 << lanes.size(); bits++) {
      if (rulesHold(bits, mustMatters) && partsOf(bits) == 2 && !ring(bits)
          && !has(flood(bits, one), other)) {
        sum = sum.add(BigInteger.valueOf(worth(bits)));
      }
    }
    return sum;
  }

  long hard(int from, int to, int part) {
    if (!isHouse(from) || !isHouse(to) || from == to) {
      return noLong(-1);
    }
    if (part != 0 && part != 1) {
      return noLong(-2);
    }
    BigInteger whole = determinantOfOpenLanes();
    if (whole.signum() == 0) {
      return noLong(-3);
    }
    return fraction(sumApart(from, to, false), whole, part);
  }

  private BigInteger determinantOfOpenLanes() {
    long[][] matrix = new long[houses][houses];
    for (Lane lane : lanes) {
      if (lane.rule != 2) {
        join(matrix, lane.from, lane.to, lane.weight());
      }
    }
    return waysByDeterminant(matrix, houses - 1);
  }

  private static void join(long[][] matrix, int from, int to, long weight) {
    matrix[from][from] += weight;
    matrix[to][to] += weight;
    matrix[from][to] -= weight;
    matrix[to][from] -= weight;
  }

  /** Expanded by its first row, as in a schoolbook. */
  private static BigInteger waysByDeterminant(long[][] matrix, int size) {
    if (size == 0) {
      return BigInteger.ONE;
    }
    BigInteger sum = BigInteger.ZERO;
    for (int column = 0; column < size; column++) {
      long[][] smaller = new long[size][size];
      for (int i = 1; i < size; i++) {
        for (int j = 0, k = 0; j < size; j++) {
          if (j != column) {
            smaller[i - 1][k++] = matrix[i][j];
          }
        }
      }
      BigInteger factor = BigInteger.valueOf(column % 2 == 0 ? matrix[0][column] : -matrix[0][column]);
      sum = sum.add(factor.signum() == 0 ? factor : factor.multiply(waysByDeterminant(smaller, size - 1)));
    }
    return sum;
  }

  /** By really adding such a lane. */
  long more(int one, int other, int part) {
    if (!isHouse(one) || !isHouse(other) || one == other) {
      return noLong(-1);
    }
    if (part != 0 && part != 1) {
      return noLong(-2);
    }
    if (ways().isEmpty()) {
      return noLong(-3);
    }
    BigInteger was = sumHaving(0, 0);
    Lane lane = new Lane();
    lane.kind = "LANE";
    lane.from = one;
    lane.to = other;
    lane.w = 1;
    lanes.add(lane);
    waysKept = null;
    BigInteger becomes = sumHaving(0, 0);
    lanes.remove(lanes.size() - 1);
    waysKept = null;
    return fraction(becomes, was, part);
  }

  long holds(int part) {
    if (part != 0 && part != 1) {
      return noLong(-2);
    }
    int open = 0;
    for (Lane lane : lanes) {
      open += lane.rule == 2 ? 0 : 1;
    }
    if (open > 8) {
      return noLong(-6);
    }
    BigInteger above = BigInteger.ZERO;
    for (int bits = 0; bits < 1 << lanes.size(); bits++) {
      if (partsOf(bits) == 1) {
        BigInteger chance = BigInteger.ONE;
        for (int i = 0; i < lanes.size(); i++) {
          chance = chance.multiply(BigInteger.valueOf(hundredths(lanes.get(i), has(bits, i))));
        }
        above = above.add(chance);
      }
    }
    return fraction(above, BigInteger.valueOf(100).pow(lanes.size()), part);
  }

  /** How likely a lane is open, or not: a barred one never is, one that must be kept always. */
  private static int hundredths(Lane lane, boolean open) {
    int drifted = lane.rule == 0 ? lane.drift() : lane.rule == 1 ? 0 : 100;
    return open ? 100 - drifted : drifted;
  }

  int plan(int k, int what) {
    if (what != 0 && what != 1) {
      return no(-2);
    }
    if (k < 1) {
      return no(-4);
    }
    List<int[]> pairs = new ArrayList<>();
    for (int from = 0; from < houses; from++) {
      for (int to = from + 1; to < houses; to++) {
        pairs.add(new int[] {from, to});
      }
    }
    if (k > 10 || houses > 5 || k > pairs.size()) {
      return no(-6);
    }
    int most = 0;
    int first = 0;
    for (int bits = 0; bits < 1 << pairs.size(); bits++) {
      if (Integer.bitCount(bits) == k) {
        long[][] matrix = new long[houses][houses];
        for (int i = 0; i < pairs.size(); i++) {
          if (has(bits, i)) {
            join(matrix, pairs.get(i)[0], pairs.get(i)[1], 1);
          }
        }
        int ways = waysByDeterminant(matrix, houses - 1).intValueExact();
        if (ways > most) {
          most = ways;
          first = bits;
        }
      }
    }
    return what == 0 ? most : first;
  }

  private int drawBelow(BigInteger n) {
    z = z * 1103515245 + 12345;
    long without = z < 0 ? z + 2147483648L : z;
    return BigInteger.valueOf(without / 65536).mod(n).intValueExact();
  }

  private int make(int drawer) {
    List<Integer> ways = ways();
    switch (drawer) {
      case 0:
        return walk();
      case 1:
        return ways.isEmpty() ? -9 : byLanes();
      case 2:
        return ways.isEmpty() ? -9 : byCost().get(0);
      case 3:
        int dear = -9;
        for (int way : ways) {
          dear = dear == -9 || cost(way) > cost(dear) ? way : dear;
        }
        return dear;
      case 4:
        return ways.isEmpty() ? -9 : ways.get(drawBelow(BigInteger.valueOf(ways.size())));
      default:
        int bits = 0;
        for (int lane : row) {
          bits |= 1 << lane;
        }
        return isWay(bits) ? bits : -9;
    }
  }

  private int walk() {
    TreeSet<Integer> been = new TreeSet<>(List.of(0));
    int at = 0;
    int kept = 0;
    int gone = 0;
    while (been.size() < houses) {
      List<Integer> slots = new ArrayList<>();
      for (int i = 0; i < lanes.size(); i++) {
        Lane lane = lanes.get(i);
        for (int w = 0; lane.rule != 2 && lane.leaves(at) && w < lane.weight(); w++) {
          slots.add(i);
        }
      }
      if (slots.isEmpty() || gone == 200) {
        return -9;
      }
      int lane = slots.get(drawBelow(BigInteger.valueOf(slots.size())));
      gone++;
      at = lanes.get(lane).from + lanes.get(lane).to - at;
      if (been.add(at)) {
        kept |= 1 << lane;
      }
    }
    return kept;
  }

  private int byLanes() {
    int kept = 0;
    int left = 0;
    for (int i = 0; i < lanes.size(); i++) {
      BigInteger all = sumHaving(kept, left);
      BigInteger having = sumHaving(kept | 1 << i, left);
      boolean keep = having.equals(all);
      if (!keep && having.signum() > 0) {
        keep = BigInteger.valueOf(drawBelow(all)).compareTo(having) < 0;
      }
      kept |= keep ? 1 << i : 0;
      left |= keep ? 0 : 1 << i;
    }
    return kept;
  }

  int draw(int drawer, int seed) {
    if (drawer < 0 || drawer > 5) {
      return no(-2);
    }
    z = seed;
    return make(drawer);
  }

  int often(int drawer, int lane, int n, int seed) {
    if (drawer < 0 || drawer > 5) {
      return no(-2);
    }
    if (!isLane(lane)) {
      return no(-1);
    }
    if (n < 1) {
      return no(-4);
    }
    if (n > 30) {
      return no(-6);
    }
    z = seed;
    int often = 0;
    for (int i = 0; i < n; i++) {
      int made = make(drawer);
      often += made >= 0 && has(made, lane) ? 1 : 0;
    }
    return often;
  }

  int row(int lane) {
    if (lane < 0) {
      return no(-4);
    }
    if (lane > 9 || row.size() == 10) {
      return no(-6);
    }
    row.add(lane);
    return row.size();
  }

  int judge() {
    List<Integer> told = row;
    row = new ArrayList<>();
    int bits = 0;
    for (int place = 0; place < told.size(); place++) {
      int lane = told.get(place);
      if (!isLane(lane) || lanes.get(lane).rule == 2 || told.indexOf(lane) < place
          || ring(bits | 1 << lane)) {
        return place;
      }
      bits |= 1 << lane;
    }
    return partsOf(bits) == 1 && rulesHold(bits, true) ? -9 : told.size();
  }

  int image() {
    imageHouses = houses;
    imageLanes = copy(lanes);
    return lanes.size();
  }

  int restore() {
    if (imageLanes == null) {
      return no(-3);
    }
    houses = imageHouses;
    lanes = copy(imageLanes);
    waysKept = null;
    return lanes.size();
  }

  int count(int what) {
    int must = 0;
    int barred = 0;
    for (Lane lane : lanes) {
      must += lane.rule == 1 ? 1 : 0;
      barred += lane.rule == 2 ? 1 : 0;
    }
    return switch (what) {
      case 0 -> houses;
      case 1 -> lanes.size();
      case 2 -> must;
      case 3 -> barred;
      case 4 -> cost(-1);
      case 5 -> letters.length();
      case 6 -> row.size();
      case 11, 12, 13, 14, 15, 16 -> refused[what - 10];
      default -> -9;
    };
  }
}
