import java.math.BigInteger;
import java.util.ArrayList;
import java.util.Arrays;
import java.util.List;
import java.util.regex.Matcher;
import java.util.regex.Pattern;

/**
 * A second implementation, written from the document as plainly as possible and without regard to speed: values
 * by their definition, ways by polynomials, texts by regular expressions, the least bid by trying all bids.
 */
final class Model {
    static final int NO_SUCH = -1, BAD_VALUE = -2, BAD_TEXT = -3, TOO_MANY = -4, NOT_POSSIBLE = -5, NONE = -6;
    private static final int OPEN = 0, SEALED = 1, FALLING = 2;
    private static final String RESERVE = "([1-9]|[1-9][0-9]|[12][0-9][0-9]|300)";
    private static final String AMOUNT = "(0|" + RESERVE + ")";
    private static final String ACT = "(s[0-2]:" + RESERVE + "|b[0-5]:" + AMOUNT + "|p[0-5]|m|f)";
    private static final Pattern ACTS = Pattern.compile(ACT + "(," + ACT + ")*");

    private static final class Player {
        int purse, boldness = 10, paid, least, greatest = 300;
        Integer bid;
        boolean out;

        Player copy() {
            Player p = new Player();
            p.purse = purse;
            p.boldness = boldness;
            p.paid = paid;
            p.least = least;
            p.greatest = greatest;
            p.bid = bid;
            p.out = out;
            return p;
        }
    }

    private static final class Lot {
        final int colour, worth;
        List<Integer> owners;
        int price;

        Lot(int colour, int worth) {
            this.colour = colour;
            this.worth = worth;
        }

        Lot copy() {
            Lot l = new Lot(colour, worth);
            l.owners = owners == null ? null : new ArrayList<>(owners);
            l.price = price;
            return l;
        }
    }

    private int[] settings = {100, 5, 12, 4, 15, 5};
    private List<Player> players = new ArrayList<>();
    private List<Lot> lots = new ArrayList<>();
    private boolean auction;
    private int mode, reserve, price, turn, bids;
    private Integer leader;
    private String pad = "";
    private Model[] slots = new Model[2];

    Model() {
        newPlayers(3);
    }

    private void newPlayers(int n) {
        players = new ArrayList<>();
        for (int p = 0; p < n; p++) {
            Player player = new Player();
            player.purse = settings[0];
            players.add(player);
        }
    }

    /** The game without pad and slots. */
    private Model copy() {
        Model m = new Model();
        m.become(this);
        return m;
    }

    private void become(Model o) {
        settings = o.settings.clone();
        players = new ArrayList<>();
        for (Player p : o.players) players.add(p.copy());
        lots = new ArrayList<>();
        for (Lot l : o.lots) lots.add(l.copy());
        auction = o.auction;
        mode = o.mode;
        reserve = o.reserve;
        price = o.price;
        turn = o.turn;
        bids = o.bids;
        leader = o.leader;
    }

    private boolean noPlayer(int p) {
        return p < 0 || p >= players.size();
    }

    private int sold() {
        int n = 0;
        for (Lot l : lots) if (l.owners != null) n++;
        return n;
    }

    private Lot nextLot() {
        for (Lot l : lots) if (l.owners == null) return l;
        return null;
    }

    private boolean isLast(Lot l) {
        return l == lots.get(lots.size() - 1);
    }

    private List<Integer> fromStarter() {
        List<Integer> seats = new ArrayList<>();
        for (int i = 0; i < players.size(); i++) seats.add((sold() + i) % players.size());
        return seats;
    }

    // ---- the game

    int setUp(int n) {
        if (n < 2 || n > 6) return BAD_VALUE;
        int before = players.size();
        newPlayers(n);
        lots = new ArrayList<>();
        auction = false;
        return before;
    }

    int set(int setting, int value) {
        int[][] ranges = {{1, 300}, {1, 20}, {1, 40}, {0, 20}, {0, 100}, {1, 20}};
        if (setting < 0 || setting > 5 || value < ranges[setting][0] || value > ranges[setting][1]) return BAD_VALUE;
        if (auction) return NOT_POSSIBLE;
        int before = settings[setting];
        settings[setting] = value;
        return before;
    }

    int fill(int p, int amount) {
        if (noPlayer(p)) return NO_SUCH;
        if (amount < 0 || amount > 300) return BAD_VALUE;
        if (auction || sold() > 0) return NOT_POSSIBLE;
        int before = players.get(p).purse;
        players.get(p).purse = amount;
        players.get(p).least = 0;
        players.get(p).greatest = 300;
        return before;
    }

    int embolden(int p, int boldness) {
        if (noPlayer(p)) return NO_SUCH;
        if (boldness < 0 || boldness > 30) return BAD_VALUE;
        int before = players.get(p).boldness;
        players.get(p).boldness = boldness;
        return before;
    }

    int lot(int colour, int worth) {
        if (colour < 0 || colour > 5 || worth < 1 || worth > 50) return BAD_VALUE;
        if (lots.size() == 12) return TOO_MANY;
        if (auction || sold() > 0) return NOT_POSSIBLE;
        lots.add(new Lot(colour, worth));
        return lots.size() - 1;
    }

    // ---- auctions

    int begin(int how, int atLeast) {
        if (how < 0 || how > 2 || atLeast < 1 || atLeast > 300) return BAD_VALUE;
        if (auction || nextLot() == null || isLast(nextLot())) return NOT_POSSIBLE;
        auction = true;
        mode = how;
        reserve = atLeast;
        price = atLeast;
        leader = null;
        bids = 0;
        turn = fromStarter().get(0);
        for (Player p : players) {
            p.bid = null;
            p.out = false;
        }
        return lots.indexOf(nextLot());
    }

    int bid(int p, int amount) {
        if (noPlayer(p)) return NO_SUCH;
        if (!auction) return NOT_POSSIBLE;
        Player player = players.get(p);
        if (mode == OPEN) {
            if (p != turn) return NOT_POSSIBLE;
            if (amount < leastOpenBid() || amount > player.purse) return BAD_VALUE;
            player.bid = amount;
            leader = p;
            bids++;
            tellsAtLeast(player, amount);
            return nextTurn(p);
        }
        if (player.bid != null) return NOT_POSSIBLE;
        if (mode == SEALED) {
            if (amount < 0 || amount > player.purse) return BAD_VALUE;
            player.bid = amount;
            bids++;
            for (Player other : players) if (other.bid == null) return NONE;
            return openSealed();
        }
        if (amount != price || price > player.purse) return BAD_VALUE;
        player.bid = amount;
        bids++;
        tellsAtLeast(player, amount);
        return NONE;
    }

    private int leastOpenBid() {
        return leader == null ? reserve : players.get(leader).bid + settings[1];
    }

    private static void tellsAtLeast(Player player, int amount) {
        player.least = Math.max(player.least, amount);
    }

    private int nextTurn(int p) {
        for (int i = 1; i <= players.size() && bids < settings[2]; i++) {
            int next = (p + i) % players.size();
            if (players.get(next).out || leader != null && leader == next) continue;
            turn = next;
            return NONE;
        }
        if (leader == null) return close(List.of(), 0);
        int paid = players.get(leader).bid;
        pays(players.get(leader), paid);
        return close(List.of(leader), paid);
    }

    private int openSealed() {
        int highest = 0;
        for (Player p : players) {
            tellsAtLeast(p, p.bid);
            highest = Math.max(highest, p.bid);
        }
        if (highest < reserve) return close(List.of(), 0);
        List<Integer> winners = new ArrayList<>();
        for (int seat : fromStarter()) if (players.get(seat).bid == highest) winners.add(seat);
        for (int i = 0; i < winners.size(); i++) {
            int more = i < highest % winners.size() ? 1 : 0;
            pays(players.get(winners.get(i)), highest / winners.size() + more);
        }
        return close(winners, highest);
    }

    private static void pays(Player player, int amount) {
        player.purse -= amount;
        player.paid += amount;
        player.least = Math.max(0, player.least - amount);
        player.greatest -= amount;
    }

    private int close(List<Integer> winners, int paid) {
        Lot lot = nextLot();
        lot.owners = new ArrayList<>(winners);
        lot.price = paid;
        auction = false;
        int set = 0;
        for (int w : winners) set += 1 << w;
        return set;
    }

    int pass(int p) {
        if (noPlayer(p)) return NO_SUCH;
        if (!auction || mode == SEALED) return NOT_POSSIBLE;
        if (mode == FALLING) return fall();
        if (p != turn) return NOT_POSSIBLE;
        players.get(p).out = true;
        return nextTurn(p);
    }

    private int fall() {
        for (int seat : fromStarter()) {
            if (players.get(seat).bid == null) continue;
            pays(players.get(seat), price);
            return close(List.of(seat), price);
        }
        price -= settings[1];
        return price < 1 ? close(List.of(), 0) : NONE;
    }

    int move() {
        if (!auction) return NOT_POSSIBLE;
        if (mode == OPEN) {
            int least = leastOpenBid();
            return least <= limit(turn) ? bid(turn, least) : pass(turn);
        }
        if (mode == SEALED) {
            for (int seat : fromStarter()) {
                if (players.get(seat).bid == null) return bid(seat, limit(seat) >= reserve ? limit(seat) : 0);
            }
        }
        for (int p = 0; p < players.size(); p++) {
            if (players.get(p).bid == null && price <= limit(p)) bid(p, price);
        }
        return fall();
    }

    int last() {
        Lot lot = nextLot();
        if (lot == null || !isLast(lot)) return NOT_POSSIBLE;
        int smallest = 301;
        for (Player p : players) smallest = Math.min(smallest, p.purse);
        for (int seat : fromStarter()) {
            if (players.get(seat).purse == smallest) {
                close(List.of(seat), 0);
                return seat;
            }
        }
        throw new IllegalStateException("nobody has the smallest purse");
    }

    int ask(int p, int amount) {
        if (noPlayer(p)) return NO_SUCH;
        if (amount < 1 || amount > 300) return BAD_VALUE;
        if (auction) return NOT_POSSIBLE;
        Player player = players.get(p);
        if (player.purse >= amount) {
            tellsAtLeast(player, amount);
            return 1;
        }
        player.greatest = Math.min(player.greatest, amount - 1);
        return 0;
    }

    // ---- what there is

    private int value(int p, Lot more) {
        int value = 0;
        int[] counts = new int[6];
        for (Lot l : lots) {
            boolean mine = l.owners != null && l.owners.contains(p);
            if (!mine && l != more) continue;
            value += l.worth / (mine ? l.owners.size() : 1);
            counts[l.colour]++;
        }
        int colours = 0;
        for (int c : counts) {
            value += settings[3] * c * (c - 1) / 2;
            if (c > 0) colours++;
        }
        return colours >= 4 ? value + settings[4] : value;
    }

    private int limit(int p) {
        int g = value(p, nextLot()) - value(p, null);
        return Math.min(players.get(p).purse, g * players.get(p).boldness / 10);
    }

    private int score(int p) {
        return value(p, null) + players.get(p).purse / settings[5];
    }

    private int place(int p) {
        List<Integer> seats = new ArrayList<>();
        for (int seat = 0; seat < players.size(); seat++) seats.add(seat);
        seats.sort((a, b) -> score(a) != score(b) ? score(b) - score(a) : a - b);
        return seats.indexOf(p) + 1;
    }

    int player(int p, int what) {
        if (noPlayer(p)) return NO_SUCH;
        Player player = players.get(p);
        int owned = 0;
        for (int l = 0; l < lots.size(); l++) {
            if (lots.get(l).owners != null && lots.get(l).owners.contains(p)) owned += 1 << l;
        }
        switch (what) {
            case 0: return player.purse;
            case 1: return player.boldness;
            case 2: return player.paid;
            case 3: return value(p, null);
            case 4: return score(p);
            case 5: return place(p);
            case 6: return owned;
            case 7: return nextLot() == null ? NONE : limit(p);
            case 8: return auction && player.bid != null ? player.bid : NONE;
            case 9: return auction && mode == OPEN && player.out ? 1 : 0;
            default: return BAD_VALUE;
        }
    }

    int about(int l, int what) {
        if (l < 0 || l >= lots.size()) return NO_SUCH;
        Lot lot = lots.get(l);
        boolean isSold = lot.owners != null && !lot.owners.isEmpty();
        int owners = 0;
        if (isSold) for (int p : lot.owners) owners += 1 << p;
        switch (what) {
            case 0: return lot.colour;
            case 1: return lot.worth;
            case 2: return owners;
            case 3: return isSold ? lot.price : NONE;
            case 4: return isSold ? 1 : lot.owners != null ? 2 : 0;
            default: return BAD_VALUE;
        }
    }

    int count(int what) {
        if (what >= 5 && what <= 9 && !auction) return NONE;
        int paid = 0;
        for (Player p : players) paid += p.paid;
        switch (what) {
            case 0: return players.size();
            case 1: return lots.size();
            case 2: return nextLot() == null ? NONE : lots.indexOf(nextLot());
            case 3: return fromStarter().get(0);
            case 4: return auction ? 1 : 0;
            case 5: return mode;
            case 6: return mode == SEALED || mode == OPEN && leader == null ? NONE
                : mode == OPEN ? players.get(leader).bid : price;
            case 7: return mode == OPEN && leader != null ? leader : NONE;
            case 8: return mode == OPEN ? turn : NONE;
            case 9: return bids;
            case 10: return sum();
            case 11: return paid;
            case 12: return pad.length();
            default: return what >= 13 && what <= 18 ? settings[what - 13] : BAD_VALUE;
        }
    }

    // ---- what is known

    private int sum() {
        int sum = 0;
        for (Player p : players) sum += p.purse;
        return sum;
    }

    /** By amounts, in how many ways a purse has them. */
    private long[] waysByAmount(int p) {
        long[] others = {1};
        for (int q = 0; q < players.size(); q++) {
            if (q == p) continue;
            int least = players.get(q).least;
            int greatest = players.get(q).greatest;
            long[] with = new long[others.length + greatest];
            for (int s = 0; s < others.length; s++) {
                if (others[s] == 0) continue;
                for (int amount = least; amount <= greatest; amount++) with[s + amount] += others[s];
            }
            others = with;
        }
        long[] ways = new long[301];
        for (int amount = players.get(p).least; amount <= players.get(p).greatest; amount++) {
            int rest = sum() - amount;
            ways[amount] = rest >= 0 && rest < others.length ? others[rest] : 0;
        }
        return ways;
    }

    int known(int p, int what) {
        if (noPlayer(p)) return NO_SUCH;
        if (what < 0 || what > 4) return BAD_VALUE;
        if (what == 0) return players.get(p).least;
        if (what == 1) return players.get(p).greatest;
        long[] ways = waysByAmount(p);
        int least = 301;
        int greatest = -1;
        BigInteger all = BigInteger.ZERO;
        BigInteger amounts = BigInteger.ZERO;
        for (int amount = 0; amount <= 300; amount++) {
            if (ways[amount] == 0) continue;
            least = Math.min(least, amount);
            greatest = amount;
            all = all.add(BigInteger.valueOf(ways[amount]));
            amounts = amounts.add(BigInteger.valueOf(ways[amount]).multiply(BigInteger.valueOf(amount)));
        }
        return what == 2 ? least : what == 3 ? greatest : amounts.divide(all).intValue();
    }

    long ways() {
        return canPay(players.size() - 1, 0);
    }

    long canPay(int p, int amount) {
        if (noPlayer(p)) return NO_SUCH;
        if (amount < 0 || amount > 300) return BAD_VALUE;
        return Arrays.stream(waysByAmount(p)).skip(amount).sum();
    }

    // ---- forecasts

    int forecast(int how, int atLeast, int p) {
        if (noPlayer(p)) return NO_SUCH;
        if (how < 0 || how > 2 || atLeast < 1 || atLeast > 300) return BAD_VALUE;
        Model m = copy();
        while (m.nextLot() != null) {
            if (m.auction) m.move();
            else if (m.last() == NOT_POSSIBLE) m.begin(how, atLeast);
        }
        return m.score(p);
    }

    int bestMode(int p, int atLeast) {
        if (noPlayer(p)) return NO_SUCH;
        if (atLeast < 1 || atLeast > 300) return BAD_VALUE;
        int best = Math.max(forecast(0, atLeast, p), Math.max(forecast(1, atLeast, p), forecast(2, atLeast, p)));
        int how = 0;
        while (forecast(how, atLeast, p) != best) how++;
        return how;
    }

    int leastBid(int p, int atLeast) {
        if (noPlayer(p)) return NO_SUCH;
        if (atLeast < 1 || atLeast > 300) return BAD_VALUE;
        if (auction || nextLot() == null || isLast(nextLot())) return NOT_POSSIBLE;
        for (int amount = 0; amount <= players.get(p).purse; amount++) {
            Model m = copy();
            m.begin(SEALED, atLeast);
            int answer = m.bid(p, amount);
            while (m.auction) answer = m.move();
            if ((answer & 1 << p) != 0) return amount;
        }
        return NONE;
    }

    // ---- texts

    int put(long characters) {
        StringBuilder text = new StringBuilder();
        boolean end = false;
        for (int i = 0; i < 8; i++) {
            int code = (int) (characters >> 8 * i) & 255;
            if (code == 0) end = true;
            else if (end || code < 33 || code > 126) return BAD_VALUE;
            else text.insert(0, (char) code);
        }
        if (text.length() == 0) return BAD_VALUE;
        if (pad.length() + text.length() > 60) return TOO_MANY;
        pad += text;
        return pad.length();
    }

    int wipe() {
        int before = pad.length();
        pad = "";
        return before;
    }

    int fault() {
        if (ACTS.matcher(pad).matches()) return NONE;
        for (int i = 0; i < pad.length(); i++) {
            Matcher prefix = ACTS.matcher(pad.substring(0, i + 1));
            if (!prefix.matches() && !prefix.hitEnd()) return i;
        }
        return pad.length();
    }

    int carryOut() {
        if (fault() != NONE) return BAD_TEXT;
        int done = 0;
        for (String act : pad.split(",")) {
            String[] numbers = act.substring(1).split(":");
            int answer;
            switch (act.charAt(0)) {
                case 's': answer = begin(Integer.parseInt(numbers[0]), Integer.parseInt(numbers[1])); break;
                case 'b': answer = bid(Integer.parseInt(numbers[0]), Integer.parseInt(numbers[1])); break;
                case 'p': answer = pass(Integer.parseInt(numbers[0])); break;
                case 'm': answer = move(); break;
                default: answer = last();
            }
            if (answer < 0 && answer != NONE) break;
            done++;
        }
        pad = "";
        return done;
    }

    // ---- saving

    int save(int slot) {
        if (slot < 0 || slot > 1) return BAD_VALUE;
        slots[slot] = copy();
        return sold();
    }

    int restore(int slot) {
        if (slot < 0 || slot > 1) return BAD_VALUE;
        if (slots[slot] == null) return NOT_POSSIBLE;
        become(slots[slot]);
        return sold();
    }
}
