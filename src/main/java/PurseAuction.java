/**
 * A game of auctions with hidden purses; README.md tells how to use it.
 *
 * <p>This class is the face: it looks at the arguments and hands the work to the classes inside. Each of
 * those keeps its own rows and looks at every index before it uses it, so that none of them ever throws.
 */
public final class PurseAuction {
    public static final int NO_SUCH = -1, BAD_VALUE = -2, BAD_TEXT = -3, TOO_MANY = -4, NOT_POSSIBLE = -5, NONE = -6;
    public static final int START = 0, STEP = 1, STOPS = 2, SET = 3, RAINBOW = 4, COIN = 5;
    public static final int OPEN = 0, SEALED = 1, FALLING = 2;

    private static final int FEWEST_PLAYERS = 2, FIRST_PLAYERS = 3, MOST_PLAYERS = 6;
    private static final int MOST_LOTS = 12, MOST_WORTH = 50;
    private static final int COLOURS = 6, RAINBOW_COLOURS = 4;
    /** No purse, bid, reserve or question is greater. */
    private static final int MOST_MONEY = 300;
    /** With this boldness the limit is just what a lot adds to the value. */
    private static final int EVEN_BOLDNESS = 10, MOST_BOLDNESS = 30;
    private static final int SETTINGS = 6;
    private static final int SLOTS = 2;
    private static final int MOST_SIGNS = 60, SIGNS_AT_ONCE = 8;
    /** Far above what a forecast needs at most: 11 lots whose price falls 300 times, and the last one. */
    private static final int MOST_MOVES = 1000000;
    /** The settings begin at this number among what count() tells. */
    private static final int COUNTED_SETTINGS = 13;

    private static final int[] SETTING_LEAST = {1, 1, 1, 0, 0, 1};
    private static final int[] SETTING_FIRST = {100, 5, 12, 4, 15, 5};
    private static final int[] SETTING_MOST = {300, 20, 40, 20, 100, 20};

    private final Game game = new Game();
    /** The copy in which forecasts are played; kept, so that no forecast makes objects. */
    private final Game trial = new Game();
    /** A slot in which nothing was saved yet is null. */
    private final Game[] slots = new Game[SLOTS];
    private final WayCounter counter = new WayCounter();
    private final Pad pad = new Pad();

    public PurseAuction() {
        game.startAnew(FIRST_PLAYERS);
    }

    // ---- the game

    public int setUp(int players) {
        if (!within(players, FEWEST_PLAYERS, MOST_PLAYERS)) return BAD_VALUE;
        int before = game.purses.players;
        game.startAnew(players);
        return before;
    }

    public int set(int setting, int value) {
        if (!isSettingValue(setting, value)) return BAD_VALUE;
        if (game.auction.goesOn()) return NOT_POSSIBLE;
        return game.changeSetting(setting, value);
    }

    public int fill(int player, int amount) {
        if (!game.purses.hasSeat(player)) return NO_SUCH;
        if (!within(amount, 0, MOST_MONEY)) return BAD_VALUE;
        if (!game.isUnopened()) return NOT_POSSIBLE;
        return game.purses.fillAnew(player, amount);
    }

    public int embolden(int player, int boldness) {
        if (!game.purses.hasSeat(player)) return NO_SUCH;
        if (!within(boldness, 0, MOST_BOLDNESS)) return BAD_VALUE;
        return game.purses.changeBoldness(player, boldness);
    }

    public int lot(int colour, int worth) {
        if (!within(colour, 0, COLOURS - 1) || !within(worth, 1, MOST_WORTH)) return BAD_VALUE;
        if (game.lots.areFull()) return TOO_MANY;
        if (!game.isUnopened()) return NOT_POSSIBLE;
        return game.lots.add(colour, worth);
    }

    // ---- auctions

    public int begin(int mode, int reserve) {
        return game.startAuction(mode, reserve);
    }

    public int bid(int player, int amount) {
        return game.takeBid(player, amount);
    }

    public int pass(int player) {
        return game.takePass(player);
    }

    public int move() {
        return game.moveAlone();
    }

    public int last() {
        return game.giveLast();
    }

    public int ask(int player, int amount) {
        if (!game.purses.hasSeat(player)) return NO_SUCH;
        if (!within(amount, 1, MOST_MONEY)) return BAD_VALUE;
        if (game.auction.goesOn()) return NOT_POSSIBLE;
        return game.purses.question(player, amount) ? 1 : 0;
    }

    // ---- what there is

    public int player(int player, int what) {
        if (!game.purses.hasSeat(player)) return NO_SUCH;
        switch (what) {
            case 0: return game.purses.amountOf(player);
            case 1: return game.purses.boldnessOf(player);
            case 2: return game.purses.paidBy(player);
            case 3: return game.valueOf(player);
            case 4: return game.scoreOf(player);
            case 5: return game.placeOf(player);
            case 6: return game.lots.ownedBy(player);
            case 7: return game.limitOf(player);
            case 8: return game.auction.bidOf(player);
            case 9: return game.auction.isOut(player) ? 1 : 0;
            default: return BAD_VALUE;
        }
    }

    public int about(int lot, int what) {
        Lots lots = game.lots;
        if (!lots.hasLot(lot)) return NO_SUCH;
        switch (what) {
            case 0: return lots.colourOf(lot);
            case 1: return lots.worthOf(lot);
            case 2: return lots.ownersOf(lot);
            case 3: return lots.priceOf(lot);
            case 4: return lots.stateOf(lot);
            default: return BAD_VALUE;
        }
    }

    public int count(int what) {
        if (isSetting(what - COUNTED_SETTINGS)) return game.settingOf(what - COUNTED_SETTINGS);
        switch (what) {
            case 0: return game.purses.players;
            case 1: return game.lots.number;
            case 2: return game.lots.next();
            case 3: return game.starter();
            case 4: return game.auction.goesOn() ? 1 : 0;
            case 5: return game.auction.mode;
            case 6: return game.auction.price;
            case 7: return game.auction.leader;
            case 8: return game.auction.turn;
            case 9: return game.auction.bids;
            case 10: return game.purses.sum();
            case 11: return game.purses.paidByAll();
            case 12: return pad.length;
            default: return BAD_VALUE;
        }
    }

    // ---- what is known

    public int known(int player, int what) {
        Purses purses = game.purses;
        if (!purses.hasSeat(player)) return NO_SUCH;
        switch (what) {
            case 0: return purses.leastOf(player);
            case 1: return purses.greatestOf(player);
            case 2: return counter.leastIn(purses, player);
            case 3: return counter.greatestIn(purses, player);
            case 4: return counter.averageIn(purses, player);
            default: return BAD_VALUE;
        }
    }

    public long ways() {
        // Every purse has at least 0, so that the seat asked for makes no difference.
        return counter.waysWith(game.purses, 0, 0);
    }

    public long canPay(int player, int amount) {
        if (!game.purses.hasSeat(player)) return NO_SUCH;
        if (!within(amount, 0, MOST_MONEY)) return BAD_VALUE;
        return counter.waysWith(game.purses, player, amount);
    }

    // ---- forecasts, in copies

    public int forecast(int mode, int reserve, int player) {
        if (!game.purses.hasSeat(player)) return NO_SUCH;
        if (!isMode(mode) || !isReserve(reserve)) return BAD_VALUE;
        trial.takeOver(game);
        for (int moves = 0; moves < MOST_MOVES && trial.lots.next() != NONE; moves++) {
            if (trial.auction.goesOn()) {
                trial.moveAlone();
            } else if (trial.lots.nextIsForSale()) {
                trial.startAuction(mode, reserve);
            } else {
                trial.giveLast();
            }
        }
        return trial.scoreOf(player);
    }

    public int bestMode(int player, int reserve) {
        if (!game.purses.hasSeat(player)) return NO_SUCH;
        if (!isReserve(reserve)) return BAD_VALUE;
        int best = OPEN;
        int bestScore = forecast(OPEN, reserve, player);
        for (int mode = SEALED; mode <= FALLING; mode++) {
            int score = forecast(mode, reserve, player);
            if (score > bestScore) {
                best = mode;
                bestScore = score;
            }
        }
        return best;
    }

    public int leastBid(int player, int reserve) {
        if (!game.purses.hasSeat(player)) return NO_SUCH;
        if (!isReserve(reserve)) return BAD_VALUE;
        if (game.auction.goesOn() || !game.lots.nextIsForSale()) return NOT_POSSIBLE;
        int needed = game.neededAgainst(player, reserve);
        return needed <= game.purses.amountOf(player) ? needed : NONE;
    }

    // ---- texts

    public int put(long characters) {
        int length = signsIn(characters);
        if (length == 0) return BAD_VALUE;
        if (pad.length + length > MOST_SIGNS) return TOO_MANY;
        for (int left = length - 1; left >= 0; left--) {
            pad.append((char) (characters >>> 8 * left & 255));
        }
        return pad.length;
    }

    public int wipe() {
        int before = pad.length;
        pad.empty();
        return before;
    }

    public int fault() {
        return pad.firstFault();
    }

    public int carryOut() {
        if (pad.firstFault() != NONE) return BAD_TEXT;
        int done = 0;
        pad.toStart();
        for (int acts = 0; acts < MOST_SIGNS && pad.readAct(); acts++) {
            if (isError(carryOutAct())) break;
            done++;
            if (!pad.readSign(',')) break;
        }
        pad.empty();
        return done;
    }

    /** Carries out the act that the pad has read last, and answers as the call of this act does. */
    private int carryOutAct() {
        switch (pad.act) {
            case 's': return game.startAuction(pad.first, pad.second);
            case 'b': return game.takeBid(pad.first, pad.second);
            case 'p': return game.takePass(pad.first);
            case 'm': return game.moveAlone();
            default: return game.giveLast();
        }
    }

    // ---- saving

    public int save(int slot) {
        if (!isSlot(slot)) return BAD_VALUE;
        Game kept = slots[slot];
        if (kept == null) {
            kept = new Game();
            slots[slot] = kept;
        }
        kept.takeOver(game);
        return game.lots.done;
    }

    public int restore(int slot) {
        if (!isSlot(slot)) return BAD_VALUE;
        Game kept = slots[slot];
        if (kept == null) return NOT_POSSIBLE;
        game.takeOver(kept);
        return game.lots.done;
    }

    // ---- what is possible

    private static boolean within(int value, int least, int most) {
        return value >= least && value <= most;
    }

    private static boolean isMode(int mode) {
        return within(mode, OPEN, FALLING);
    }

    private static boolean isReserve(int reserve) {
        return within(reserve, 1, MOST_MONEY);
    }

    private static boolean isSetting(int setting) {
        return within(setting, 0, SETTINGS - 1);
    }

    private static boolean isSettingValue(int setting, int value) {
        return isSetting(setting) && within(value, SETTING_LEAST[setting], SETTING_MOST[setting]);
    }

    private static boolean isSlot(int slot) {
        return within(slot, 0, SLOTS - 1);
    }

    private static boolean isError(int answer) {
        return answer < 0 && answer != NONE;
    }

    /** How many characters a number holds, 0 if it is not as put() wants it. */
    private static int signsIn(long characters) {
        long rest = characters;
        int length = 0;
        for (int sign = 0; sign < SIGNS_AT_ONCE && (rest & 255) != 0; sign++) {
            if (!within((int) (rest & 255), '!', '~')) return 0;
            rest >>>= 8;
            length++;
        }
        return rest == 0 ? length : 0;
    }

    private static void copyRow(int[] from, int[] to) {
        System.arraycopy(from, 0, to, 0, Math.min(from.length, to.length));
    }

    /** A whole game: what a slot keeps, and what a forecast is played in. */
    private static final class Game {
        private final int[] settings = SETTING_FIRST.clone();
        private final Purses purses = new Purses();
        private final Lots lots = new Lots();
        private final Auction auction = new Auction();

        private void startAnew(int players) {
            purses.startAnew(players, settingOf(START));
            lots.clear();
            auction.clear();
        }

        private void takeOver(Game other) {
            copyRow(other.settings, settings);
            purses.takeOver(other.purses);
            lots.takeOver(other.lots);
            auction.takeOver(other.auction);
        }

        private int settingOf(int setting) {
            return setting >= 0 && setting < settings.length ? settings[setting] : 0;
        }

        private int changeSetting(int setting, int value) {
            if (!isSetting(setting)) return BAD_VALUE;
            int before = settings[setting];
            settings[setting] = value;
            return before;
        }

        /** Whether no lot is sold or unsold yet, and no auction goes on. */
        private boolean isUnopened() {
            return lots.done == 0 && !auction.goesOn();
        }

        private int starter() {
            return purses.players > 0 ? lots.done % purses.players : 0;
        }

        private int startAuction(int mode, int reserve) {
            if (!isMode(mode) || !isReserve(reserve)) return BAD_VALUE;
            if (auction.goesOn() || !lots.nextIsForSale()) return NOT_POSSIBLE;
            auction.start(mode, reserve, starter());
            return lots.next();
        }

        /** Takes a bid of any mode; the acts of the modes answer an error, or NONE if they count. */
        private int takeBid(int seat, int amount) {
            if (!purses.hasSeat(seat)) return NO_SUCH;
            int answer = NOT_POSSIBLE;
            if (auction.mode == OPEN) answer = raise(seat, amount);
            if (auction.mode == SEALED) answer = handIn(seat, amount);
            if (auction.mode == FALLING) answer = claim(seat, amount);
            return answer == NONE ? settle() : answer;
        }

        private int takePass(int seat) {
            if (!purses.hasSeat(seat)) return NO_SUCH;
            int answer = NOT_POSSIBLE;
            if (auction.mode == OPEN) answer = stepOut(seat);
            if (auction.mode == FALLING) answer = letFall();
            return answer == NONE ? settle() : answer;
        }

        private int moveAlone() {
            if (!auction.goesOn()) return NOT_POSSIBLE;
            if (auction.mode == FALLING) {
                claimAlone();
                letFall();
                return settle();
            }
            int seat = auction.mode == OPEN ? auction.turn : firstWithoutBid();
            int limit = limitOf(seat);
            if (auction.mode == SEALED) {
                handIn(seat, limit >= auction.reserve ? limit : 0);
            } else if (leastRaise() <= limit) {
                raise(seat, leastRaise());
            } else {
                stepOut(seat);
            }
            return settle();
        }

        /** Closes the lot if the auction has come to its end. Answers the set of the winners, or NONE if it goes on. */
        private int settle() {
            int winners = auction.winners;
            if (winners == NONE) return NONE;
            collect(winners, auction.price);
            lots.close(winners, auction.price);
            auction.clear();
            return winners;
        }

        /** Makes the winners share the price; the first ones from the starter on pay what is left of the division. */
        private void collect(int winners, int price) {
            int sharers = Integer.bitCount(winners);
            if (sharers == 0) return;
            int share = price / sharers;
            int rest = price % sharers;
            int starter = starter();
            for (int steps = 0; steps < purses.players; steps++) {
                int seat = purses.seatBehind(starter, steps);
                if ((winners >> seat & 1) == 0) continue;
                purses.takeFrom(seat, rest > 0 ? share + 1 : share);
                rest--;
            }
        }

        private int giveLast() {
            if (!lots.nextIsLast()) return NOT_POSSIBLE;
            int poorest = purses.poorest(starter());
            lots.close(1 << poorest, 0);
            return poorest;
        }

        // ---- OPEN

        private int leastRaise() {
            return auction.leader == NONE ? auction.reserve : auction.price + settingOf(STEP);
        }

        private int raise(int seat, int amount) {
            if (seat != auction.turn) return NOT_POSSIBLE;
            if (!within(amount, leastRaise(), purses.amountOf(seat))) return BAD_VALUE;
            auction.noteBid(seat, amount);
            auction.price = amount;
            auction.leader = seat;
            purses.learnAtLeast(seat, amount);
            turnBehind(seat);
            return NONE;
        }

        private int stepOut(int seat) {
            if (seat != auction.turn) return NOT_POSSIBLE;
            auction.noteOut(seat);
            turnBehind(seat);
            return NONE;
        }

        private void turnBehind(int actor) {
            auction.turn = auction.bids < settingOf(STOPS) ? nextToAct(actor) : NONE;
            if (auction.turn == NONE) auction.winners = auction.leader == NONE ? 0 : 1 << auction.leader;
        }

        private int nextToAct(int actor) {
            for (int steps = 1; steps < purses.players; steps++) {
                int seat = purses.seatBehind(actor, steps);
                if (seat != auction.leader && !auction.isOut(seat)) return seat;
            }
            return NONE;
        }

        // ---- SEALED

        private int firstWithoutBid() {
            int starter = starter();
            for (int steps = 0; steps < purses.players; steps++) {
                int seat = purses.seatBehind(starter, steps);
                if (auction.bidOf(seat) == NONE) return seat;
            }
            return NONE;
        }

        private int handIn(int seat, int amount) {
            if (auction.bidOf(seat) != NONE) return NOT_POSSIBLE;
            if (!within(amount, 0, purses.amountOf(seat))) return BAD_VALUE;
            auction.noteBid(seat, amount);
            if (auction.bids == purses.players) openBids();
            return NONE;
        }

        private void openBids() {
            int highest = 0;
            int bidders = 0;
            for (int seat = 0; seat < purses.players; seat++) {
                int handed = auction.bidOf(seat);
                purses.learnAtLeast(seat, handed);
                if (handed > highest) {
                    highest = handed;
                    bidders = 0;
                }
                if (handed == highest) bidders |= 1 << seat;
            }
            auction.price = highest;
            auction.winners = highest >= auction.reserve ? bidders : 0;
        }

        // ---- FALLING

        private int claim(int seat, int amount) {
            if (auction.bidOf(seat) != NONE) return NOT_POSSIBLE;
            if (amount != auction.price || amount > purses.amountOf(seat)) return BAD_VALUE;
            auction.noteBid(seat, amount);
            purses.learnAtLeast(seat, amount);
            return NONE;
        }

        private void claimAlone() {
            for (int seat = 0; seat < purses.players; seat++) {
                if (auction.bidOf(seat) == NONE && auction.price <= limitOf(seat)) claim(seat, auction.price);
            }
        }

        private int letFall() {
            int starter = starter();
            for (int steps = 0; steps < purses.players; steps++) {
                int seat = purses.seatBehind(starter, steps);
                if (auction.bidOf(seat) == NONE) continue;
                auction.winners = 1 << seat;
                return NONE;
            }
            auction.price -= settingOf(STEP);
            if (auction.price < 1) auction.winners = 0;
            return NONE;
        }

        // ---- what players would do, and what they have

        private int limitOf(int seat) {
            if (lots.next() == NONE) return NONE;
            int gain = lots.gainFor(seat, settingOf(SET), settingOf(RAINBOW));
            return Math.min(purses.amountOf(seat), gain * purses.boldnessOf(seat) / EVEN_BOLDNESS);
        }

        /** The least bid that is neither under the reserve nor under what any other would hand in. */
        private int neededAgainst(int player, int reserve) {
            int needed = reserve;
            for (int seat = 0; seat < purses.players; seat++) {
                if (seat != player) needed = Math.max(needed, limitOf(seat));
            }
            return needed;
        }

        private int valueOf(int seat) {
            return lots.valueFor(seat, settingOf(SET), settingOf(RAINBOW));
        }

        private int scoreOf(int seat) {
            int coin = settingOf(COIN);
            return valueOf(seat) + (coin > 0 ? purses.amountOf(seat) / coin : 0);
        }

        private int placeOf(int player) {
            int own = scoreOf(player);
            int place = 1;
            for (int seat = 0; seat < purses.players; seat++) {
                int score = scoreOf(seat);
                if (score > own || score == own && seat < player) place++;
            }
            return place;
        }
    }

    /** The purses by seats, and what all know of them; a seat that is not at the table has nothing. */
    private static final class Purses {
        private int players = FIRST_PLAYERS;
        private final int[] amount = new int[MOST_PLAYERS];
        private final int[] boldness = new int[MOST_PLAYERS];
        private final int[] paid = new int[MOST_PLAYERS];
        private final int[] least = new int[MOST_PLAYERS];
        private final int[] greatest = new int[MOST_PLAYERS];

        private void startAnew(int seats, int money) {
            players = Math.min(seats, MOST_PLAYERS);
            for (int seat = 0; seat < MOST_PLAYERS; seat++) {
                amount[seat] = money;
                boldness[seat] = EVEN_BOLDNESS;
                paid[seat] = 0;
                least[seat] = 0;
                greatest[seat] = MOST_MONEY;
            }
        }

        private void takeOver(Purses other) {
            players = other.players;
            copyRow(other.amount, amount);
            copyRow(other.boldness, boldness);
            copyRow(other.paid, paid);
            copyRow(other.least, least);
            copyRow(other.greatest, greatest);
        }

        private boolean hasSeat(int seat) {
            return seat >= 0 && seat < players;
        }

        /** The seat so many seats behind another one (fewer than there are players), around the table. */
        private int seatBehind(int seat, int steps) {
            int reached = seat + steps;
            return reached < players ? reached : reached - players;
        }

        private int amountOf(int seat) {
            return hasSeat(seat) ? amount[seat] : 0;
        }

        private int boldnessOf(int seat) {
            return hasSeat(seat) ? boldness[seat] : 0;
        }

        private int paidBy(int seat) {
            return hasSeat(seat) ? paid[seat] : 0;
        }

        private int leastOf(int seat) {
            return hasSeat(seat) ? least[seat] : 0;
        }

        private int greatestOf(int seat) {
            return hasSeat(seat) ? greatest[seat] : 0;
        }

        private int fillAnew(int seat, int money) {
            if (!hasSeat(seat)) return NO_SUCH;
            int before = amount[seat];
            amount[seat] = money;
            least[seat] = 0;
            greatest[seat] = MOST_MONEY;
            return before;
        }

        private int changeBoldness(int seat, int value) {
            if (!hasSeat(seat)) return NO_SUCH;
            int before = boldness[seat];
            boldness[seat] = value;
            return before;
        }

        private void learnAtLeast(int seat, int money) {
            if (hasSeat(seat) && least[seat] < money) least[seat] = money;
        }

        private void learnAtMost(int seat, int money) {
            if (hasSeat(seat) && greatest[seat] > money) greatest[seat] = money;
        }

        /** Whether the purse has the money; all hear the answer. */
        private boolean question(int seat, int money) {
            boolean has = amountOf(seat) >= money;
            if (has) {
                learnAtLeast(seat, money);
            } else {
                learnAtMost(seat, money - 1);
            }
            return has;
        }

        private void takeFrom(int seat, int money) {
            if (!hasSeat(seat)) return;
            amount[seat] -= money;
            paid[seat] += money;
            least[seat] = Math.max(0, least[seat] - money);
            greatest[seat] -= money;
        }

        private int sum() {
            int sum = 0;
            for (int seat = 0; seat < players; seat++) sum += amountOf(seat);
            return sum;
        }

        private int paidByAll() {
            int sum = 0;
            for (int seat = 0; seat < players; seat++) sum += paidBy(seat);
            return sum;
        }

        /** The smallest purse, of several the first one by seats from a seat on. */
        private int poorest(int from) {
            int found = from;
            for (int steps = 1; steps < players; steps++) {
                int seat = seatBehind(from, steps);
                if (amountOf(seat) < amountOf(found)) found = seat;
            }
            return found;
        }
    }

    /** The lots in their order; the first ones are done, that is sold or, without owners, unsold. */
    private static final class Lots {
        private int number;
        private int done;
        private final int[] colour = new int[MOST_LOTS];
        private final int[] worth = new int[MOST_LOTS];
        private final int[] owners = new int[MOST_LOTS];
        private final int[] price = new int[MOST_LOTS];

        private void clear() {
            number = 0;
            done = 0;
        }

        private void takeOver(Lots other) {
            number = other.number;
            done = other.done;
            copyRow(other.colour, colour);
            copyRow(other.worth, worth);
            copyRow(other.owners, owners);
            copyRow(other.price, price);
        }

        private boolean areFull() {
            return number >= MOST_LOTS;
        }

        private boolean hasLot(int lot) {
            return lot >= 0 && lot < number;
        }

        private int add(int hue, int value) {
            if (areFull()) return TOO_MANY;
            colour[number] = hue;
            worth[number] = value;
            owners[number] = 0;
            price[number] = 0;
            number++;
            return number - 1;
        }

        private int next() {
            return done < number ? done : NONE;
        }

        private boolean nextIsLast() {
            return number > 0 && done == number - 1;
        }

        private boolean nextIsForSale() {
            return done < number - 1;
        }

        private void close(int winners, int paid) {
            if (done < 0 || done >= number) return;
            owners[done] = winners;
            price[done] = paid;
            done++;
        }

        private int colourOf(int lot) {
            return hasLot(lot) ? colour[lot] : NONE;
        }

        private int worthOf(int lot) {
            return hasLot(lot) ? worth[lot] : 0;
        }

        private int ownersOf(int lot) {
            return hasLot(lot) ? owners[lot] : 0;
        }

        private int priceOf(int lot) {
            return hasLot(lot) && owners[lot] != 0 ? price[lot] : NONE;
        }

        private int stateOf(int lot) {
            if (lot >= done) return 0;
            return ownersOf(lot) != 0 ? 1 : 2;
        }

        private boolean owns(int seat, int lot) {
            return lot >= 0 && lot < number && (owners[lot] >> seat & 1) == 1;
        }

        private int ownedBy(int seat) {
            int owned = 0;
            for (int lot = 0; lot < done; lot++) {
                if (owns(seat, lot)) owned |= 1 << lot;
            }
            return owned;
        }

        private int valueFor(int seat, int set, int rainbow) {
            int value = 0;
            int colours = 0;
            for (int lot = 0; lot < done; lot++) {
                if (owns(seat, lot)) value += shareOf(lot);
            }
            for (int hue = 0; hue < COLOURS; hue++) {
                int alike = ownedOfColour(seat, hue);
                value += set * alike * (alike - 1) / 2;
                if (alike > 0) colours++;
            }
            return colours >= RAINBOW_COLOURS ? value + rainbow : value;
        }

        private int shareOf(int lot) {
            int sharers = hasLot(lot) ? Integer.bitCount(owners[lot]) : 0;
            return sharers > 0 ? worth[lot] / sharers : 0;
        }

        private int ownedOfColour(int seat, int hue) {
            int owned = 0;
            for (int lot = 0; lot < done; lot++) {
                if (owns(seat, lot) && colour[lot] == hue) owned++;
            }
            return owned;
        }

        /**
         * The value with the next lot, owned alone, minus the value without it. One more lot of a colour makes a
         * pair with each one that there is, so that the values themselves, which cost more, are not needed.
         */
        private int gainFor(int seat, int set, int rainbow) {
            if (!hasLot(done)) return 0;
            int alike = 0;
            int colours = 0;
            for (int lot = 0; lot < done; lot++) {
                if ((owners[lot] >> seat & 1) == 0) continue;
                if (colour[lot] == colour[done]) alike++;
                colours |= 1 << colour[lot];
            }
            boolean completes = alike == 0 && Integer.bitCount(colours) == RAINBOW_COLOURS - 1;
            return worth[done] + set * alike + (completes ? rainbow : 0);
        }
    }

    /** The auction that goes on; without one every number is NONE, and nobody has bid or is out. */
    private static final class Auction {
        private int mode;
        private int reserve;
        /** The highest bid of an OPEN auction, the price of a FALLING one; of a SEALED one when all bids are open. */
        private int price;
        private int leader;
        private int turn;
        private int bids;
        /** The set of those who are out of an OPEN auction. */
        private int outs;
        /** NONE as long as the auction goes on, then the set of the winners. */
        private int winners;
        private final int[] bid = new int[MOST_PLAYERS];

        private Auction() {
            clear();
        }

        private void clear() {
            mode = NONE;
            reserve = NONE;
            price = NONE;
            leader = NONE;
            turn = NONE;
            bids = NONE;
            outs = 0;
            winners = NONE;
            for (int seat = 0; seat < MOST_PLAYERS; seat++) bid[seat] = NONE;
        }

        private void start(int how, int atLeast, int starter) {
            clear();
            mode = how;
            reserve = atLeast;
            price = how == FALLING ? atLeast : NONE;
            turn = how == OPEN ? starter : NONE;
            bids = 0;
        }

        private void takeOver(Auction other) {
            mode = other.mode;
            reserve = other.reserve;
            price = other.price;
            leader = other.leader;
            turn = other.turn;
            bids = other.bids;
            outs = other.outs;
            winners = other.winners;
            copyRow(other.bid, bid);
        }

        private boolean goesOn() {
            return mode != NONE;
        }

        private int bidOf(int seat) {
            return within(seat, 0, MOST_PLAYERS - 1) ? bid[seat] : NONE;
        }

        private boolean isOut(int seat) {
            return (outs >> seat & 1) == 1;
        }

        private void noteBid(int seat, int amount) {
            if (!within(seat, 0, MOST_PLAYERS - 1)) return;
            bid[seat] = amount;
            bids++;
        }

        private void noteOut(int seat) {
            outs |= 1 << seat;
        }
    }

    /** Counts the ways to fill the purses, in two rows that are made once. */
    private static final class WayCounter {
        private static final int SUMS = MOST_PLAYERS * MOST_MONEY + 1;

        /** By sums: in how many ways the purses taken in so far have this sum. */
        private final long[] ways = new long[SUMS];
        /** By sums: in how many ways they had at most this sum, before the latest one was taken in. */
        private final long[] upTo = new long[SUMS];

        private int leastIn(Purses purses, int seat) {
            takeInOthers(purses, seat);
            int sum = purses.sum();
            int least = purses.leastOf(seat);
            for (int amount = least; amount <= purses.greatestOf(seat); amount++) {
                if (waysOf(sum - amount) > 0) return amount;
            }
            return least;
        }

        private int greatestIn(Purses purses, int seat) {
            takeInOthers(purses, seat);
            int sum = purses.sum();
            int greatest = purses.greatestOf(seat);
            for (int amount = greatest; amount >= purses.leastOf(seat); amount--) {
                if (waysOf(sum - amount) > 0) return amount;
            }
            return greatest;
        }

        private int averageIn(Purses purses, int seat) {
            takeInOthers(purses, seat);
            int sum = purses.sum();
            long all = 0;
            long amounts = 0;
            for (int amount = purses.leastOf(seat); amount <= purses.greatestOf(seat); amount++) {
                long found = waysOf(sum - amount);
                all += found;
                amounts += found * amount;
            }
            return all > 0 ? (int) (amounts / all) : 0;
        }

        /** The ways in which a purse has at least so much. */
        private long waysWith(Purses purses, int seat, int atLeast) {
            takeInOthers(purses, seat);
            int sum = purses.sum();
            long all = 0;
            for (int amount = Math.max(atLeast, purses.leastOf(seat)); amount <= purses.greatestOf(seat); amount++) {
                all += waysOf(sum - amount);
            }
            return all;
        }

        private void takeInOthers(Purses purses, int leftOut) {
            for (int sum = 0; sum < SUMS; sum++) ways[sum] = sum == 0 ? 1 : 0;
            for (int seat = 0; seat < purses.players; seat++) {
                if (seat != leftOut) takeIn(purses.leastOf(seat), purses.greatestOf(seat));
            }
        }

        private void takeIn(int least, int greatest) {
            long all = 0;
            for (int sum = 0; sum < SUMS; sum++) {
                all += ways[sum];
                upTo[sum] = all;
            }
            for (int sum = 0; sum < SUMS; sum++) {
                ways[sum] = waysUpTo(sum - least) - waysUpTo(sum - greatest - 1);
            }
        }

        private long waysOf(int sum) {
            return within(sum, 0, SUMS - 1) ? ways[sum] : 0;
        }

        private long waysUpTo(int sum) {
            return within(sum, 0, SUMS - 1) ? upTo[sum] : 0;
        }
    }

    /** The text of acts, and how far it is read. */
    private static final class Pad {
        /** So many digits has the greatest number of a text, 300. */
        private static final int MOST_DIGITS = 3;

        private final char[] signs = new char[MOST_SIGNS];
        private int length;
        private int at;
        /** The act that was read last, by its letter, with its numbers. */
        private int act;
        private int first;
        private int second;

        private void append(char sign) {
            if (length >= MOST_SIGNS) return;
            signs[length] = sign;
            length++;
        }

        private void empty() {
            length = 0;
        }

        private void toStart() {
            at = 0;
        }

        private int firstFault() {
            toStart();
            boolean fits = readAct();
            for (int acts = 1; acts < MOST_SIGNS && fits && at < length; acts++) {
                fits = readSign(',') && readAct();
            }
            return fits ? NONE : at;
        }

        /** Reads an act; if it cannot, it stands at the first sign that does not fit, or at the end. */
        private boolean readAct() {
            act = signAt(at);
            switch (act) {
                case 's':
                    at++;
                    return readPair(FALLING, 1);
                case 'b':
                    at++;
                    return readPair(MOST_PLAYERS - 1, 0);
                case 'p':
                    at++;
                    first = readNumber(0, MOST_PLAYERS - 1);
                    return first != NONE;
                case 'm':
                case 'f':
                    at++;
                    return true;
                default:
                    return false;
            }
        }

        private boolean readPair(int mostOfFirst, int leastOfSecond) {
            first = readNumber(0, mostOfFirst);
            if (first == NONE || !readSign(':')) return false;
            second = readNumber(leastOfSecond, MOST_MONEY);
            return second != NONE;
        }

        private boolean readSign(char wanted) {
            if (signAt(at) != wanted) return false;
            at++;
            return true;
        }

        /**
         * Reads a number from a least one, 0 or 1, on. It stops ahead of a digit that would make it too great, or
         * that follows a leading 0; no sign that may follow a number is a digit, so that the fault is found there.
         */
        private int readNumber(int least, int most) {
            int number = digitAt(at);
            if (number < least || number > most) return NONE;
            at++;
            for (int digits = 1; digits < MOST_DIGITS && number > 0; digits++) {
                int digit = digitAt(at);
                if (digit == NONE || number * 10 + digit > most) break;
                number = number * 10 + digit;
                at++;
            }
            return number;
        }

        private int digitAt(int index) {
            int sign = signAt(index);
            return within(sign, '0', '9') ? sign - '0' : NONE;
        }

        /** The sign at a place, 0 behind the end. */
        private int signAt(int index) {
            return index >= 0 && index < length ? signs[index] : 0;
        }
    }
}
