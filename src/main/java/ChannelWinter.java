/** A frozen sea kept open. */
public final class ChannelWinter {
    private static final int NONE = -1;

    private static final int COLUMNS = 5;
    private static final int CELLS = 15;
    private static final int MOST_ICE = 300;
    private static final int MOST_COLD = 9;
    private static final int MOST_HOURS = 24;

    private static final int NORTH = 0;
    private static final int EAST = 1;
    private static final int SOUTH = 2;
    private static final int WEST = 3;

    private static final int MOST_BREAKERS = 2;
    private static final int MOST_SHIPS = 5;
    private static final int MOST_PORTS = 3;
    private static final int MOST_ROUTE = 8;
    private static final int MOST_RULES = 10;

    private static final int MOST_FUEL = 999;
    private static final int MOST_FUEL_ADDED = 500;
    private static final int MOST_BROKEN = 150;
    private static final int CHANNEL_HOURS = 12;

    private static final int MOST_CLASS = 4;
    private static final int MOST_POWER = 9;
    private static final int MOST_LED = 2;
    private static final int LED_DUES = 4;
    private static final int TOWED_DUES = 9;
    private static final int HARMFUL_PRESS = 6;

    private static final int LEAST_NOTICE = 24;
    private static final int MOST_NOTICE = 200;

    /** How a ship goes, numbered as ofShip() tells it. */
    private static final int FREE = 0;
    private static final int LED = 1;
    private static final int TOWED = 2;
    private static final int ARRIVED = 3;

    /** Why a ship waits. */
    private static final int NOTHING_TOLD = 0;
    private static final int BY_POWER = 1;
    private static final int BY_BEARING = 2;
    private static final int BY_RULE = 3;
    private static final int BY_BREAKER = 4;
    private static final int REASONS = 5;

    private static final int CELL_QUESTIONS = 6;
    private static final int BREAKER_QUESTIONS = 6;
    private static final int SHIP_QUESTIONS = 15;
    private static final int FIRST_WAIT_QUESTION = 10;
    private static final int SEA_QUESTIONS = 11;

    private final Ports ports;
    private final Sea sea;
    /** Where hours are tried that do not really go by: kept, so that a question makes no new objects. */
    private final Sea trial;
    private final Chart chart;

    public ChannelWinter() {
        ports = new Ports();
        sea = new Sea();
        trial = new Sea();
        chart = new Chart();
    }

    // ---- what is told

    public int ice(int cell, int ice)
            throws IndexOutOfBoundsException, IllegalArgumentException, IllegalStateException {
        Cell told = sea.cellAt(cell);
        demandArgument(within(ice, 0, MOST_ICE));
        demandState(!told.land);
        int before = told.ice;
        told.ice = ice;
        return before;
    }

    public int land(int cell) throws IndexOutOfBoundsException, IllegalStateException {
        Cell told = sea.cellAt(cell);
        demandState(!told.land && !sea.isTaken(cell) && !ports.isPort(cell));
        int before = told.ice;
        told.becomeLand();
        return before;
    }

    public int port(int cell)
            throws IndexOutOfBoundsException, IllegalArgumentException, IllegalStateException {
        Cell told = sea.cellAt(cell);
        demandArgument(!told.land && !ports.isPort(cell));
        demandState(ports.count < MOST_PORTS);
        return ports.found(cell);
    }

    public int rule(int port, int least, int later)
            throws IndexOutOfBoundsException, IllegalArgumentException, IllegalStateException {
        Port told = ports.portAt(port);
        demandArgument(within(least, 0, MOST_CLASS) && within(later, LEAST_NOTICE, MOST_NOTICE));
        demandState(told.rules < MOST_RULES);
        int hour = sea.now + later;
        told.addRule(least, hour);
        return hour;
    }

    public boolean exempt(int port, int ship) throws IndexOutOfBoundsException {
        Port told = ports.portAt(port);
        sea.shipAt(ship);
        boolean before = told.isExempt(ship);
        told.makeExempt(ship);
        return before;
    }

    public int breaker(int cell, int fuel)
            throws IndexOutOfBoundsException, IllegalArgumentException, IllegalStateException {
        Cell told = sea.cellAt(cell);
        demandArgument(!told.land && within(fuel, 0, MOST_FUEL));
        demandState(sea.breakerCount < MOST_BREAKERS);
        return sea.addBreaker(cell, fuel);
    }

    public int ship(int cell, int rank, int power, int port)
            throws IndexOutOfBoundsException, IllegalArgumentException, IllegalStateException {
        Cell told = sea.cellAt(cell);
        ports.portAt(port);
        demandArgument(!told.land && within(rank, 0, MOST_CLASS) && within(power, 1, MOST_POWER));
        demandState(sea.shipCount < MOST_SHIPS);
        return sea.addShip(cell, rank, power, port);
    }

    // ---- what is done

    public int steer(int breaker, int cell) throws IndexOutOfBoundsException, IllegalStateException {
        Breaker steered = sea.breakerAt(breaker);
        sea.cellAt(cell);
        demandState(!steered.route.isFull());
        return steered.route.add(cell);
    }

    public int sail(int ship, int cell) throws IndexOutOfBoundsException, IllegalStateException {
        Ship sailing = sea.shipAt(ship);
        sea.cellAt(cell);
        demandState(sailing.status != ARRIVED && !sailing.route.isFull());
        return sailing.route.add(cell);
    }

    public int halt(int ship) throws IndexOutOfBoundsException {
        Ship halted = sea.shipAt(ship);
        if (halted.status != ARRIVED) {
            halted.setFree();
        }
        return halted.route.drop();
    }

    public int lead(int breaker, int ship) throws IndexOutOfBoundsException, IllegalStateException {
        Breaker leader = sea.breakerAt(breaker);
        Ship follower = sea.shipAt(ship);
        demandState(canTake(leader, follower));
        demandState(!follower.isBound(LED, breaker) && sea.countLed(breaker) < MOST_LED);
        follower.bind(LED, breaker);
        return sea.countLed(breaker);
    }

    public int tow(int breaker, int ship) throws IndexOutOfBoundsException, IllegalStateException {
        Breaker tug = sea.breakerAt(breaker);
        Ship towed = sea.shipAt(ship);
        demandState(canTake(tug, towed) && towed.rank >= 1);
        demandState(sea.towedBy(breaker) == NONE);
        towed.bind(TOWED, breaker);
        return towed.bears;
    }

    public int fuel(int breaker, int fuel)
            throws IndexOutOfBoundsException, IllegalArgumentException, IllegalStateException {
        Breaker fuelled = sea.breakerAt(breaker);
        demandArgument(within(fuel, 1, MOST_FUEL_ADDED));
        demandState(ports.isPort(fuelled.cell));
        fuelled.fuel = Math.min(MOST_FUEL, fuelled.fuel + fuel);
        return fuelled.fuel;
    }

    public int pass(int cold, int wind, int hours) throws IllegalArgumentException {
        demandArgument(isWeather(cold, wind) && within(hours, 1, MOST_HOURS));
        int arrived = 0;
        for (int gone = 0; gone < hours; gone++) {
            arrived += sea.passHour(ports, cold, wind);
        }
        return arrived;
    }

    // ---- what one asks

    public int ofCell(int cell, int what) throws IndexOutOfBoundsException, IllegalArgumentException {
        Cell asked = sea.cellAt(cell);
        demandArgument(within(what, 0, CELL_QUESTIONS - 1));
        switch (what) {
            case 0:
                return asked.ice;
            case 1:
                return asked.press;
            case 2:
                return asked.channel;
            case 3:
                return asked.land ? 1 : 0;
            case 4:
                return asked.worth();
            default:
                return sea.countShipsIn(cell);
        }
    }

    public int ofBreaker(int breaker, int what) throws IndexOutOfBoundsException, IllegalArgumentException {
        Breaker asked = sea.breakerAt(breaker);
        demandArgument(within(what, 0, BREAKER_QUESTIONS - 1));
        switch (what) {
            case 0:
                return asked.cell;
            case 1:
                return asked.fuel;
            case 2:
                return asked.route.size;
            case 3:
                return sea.countLed(breaker);
            case 4:
                return sea.towedBy(breaker);
            default:
                return asked.stuck;
        }
    }

    public int ofShip(int ship, int what) throws IndexOutOfBoundsException, IllegalArgumentException {
        Ship asked = sea.shipAt(ship);
        demandArgument(within(what, 0, SHIP_QUESTIONS - 1));
        switch (what) {
            case 0:
                return asked.cell;
            case 1:
                return asked.rank;
            case 2:
                return asked.power;
            case 3:
                return asked.port;
            case 4:
                return asked.status;
            case 5:
                return asked.breaker;
            case 6:
                return asked.route.size;
            case 7:
                return asked.damage;
            case 8:
                return asked.dues;
            case 9:
                return asked.arrivedAt;
            default:
                return asked.waitsBy(what - FIRST_WAIT_QUESTION);
        }
    }

    public int inForce(int port, int hour) throws IndexOutOfBoundsException, IllegalArgumentException {
        Port asked = ports.portAt(port);
        demandArgument(hour >= 0);
        return asked.leastAt(hour);
    }

    public int many(int what) throws IllegalArgumentException {
        demandArgument(within(what, 0, SEA_QUESTIONS - 1));
        switch (what) {
            case 0:
                return sea.now;
            case 1:
                return sea.allIce();
            case 2:
                return sea.countChannels();
            case 3:
                return sea.shipCount;
            case 4:
                return sea.countArrived();
            case 5:
                return sea.breakerCount;
            case 6:
                return ports.count;
            case 7:
                return sea.allWaits();
            case 8:
                return sea.allDues();
            case 9:
                return sea.frozen;
            default:
                return sea.allDamage();
        }
    }

    public double meanIce() {
        int open = sea.countOpen();
        return open == 0 ? 0.0 : (double) sea.allIce() / open;
    }

    // ---- what would be

    public int way(int ship, int cell) throws IndexOutOfBoundsException {
        Ship asked = sea.shipAt(ship);
        sea.cellAt(cell);
        for (int number = 0; number < CELLS; number++) {
            chart.setPrice(number, canEnter(asked, sea.cellAt(number)) ? 1 : NONE);
        }
        return chart.cheapest(asked.cell, cell);
    }

    public int toBreak(int ship) throws IndexOutOfBoundsException {
        return channelsNeeded(sea.shipAt(ship));
    }

    public int helpNext(int breaker) throws IndexOutOfBoundsException {
        Breaker asked = sea.breakerAt(breaker);
        int best = NONE;
        int bestRemoteness = 0;
        for (int number = 0; number < sea.shipCount; number++) {
            Ship ship = sea.shipAt(number);
            int remoteness = distance(asked.cell, ship.cell) - ship.allWaits() / 6;
            if (ship.status == FREE && (best == NONE || remoteness < bestRemoteness)
                    && channelsNeeded(ship) >= 1) {
                best = number;
                bestRemoteness = remoteness;
            }
        }
        return best;
    }

    public int arriveIn(int ship, int hours, int cold, int wind)
            throws IndexOutOfBoundsException, IllegalArgumentException {
        Ship asked = sea.shipAt(ship);
        demandArgument(within(hours, 1, MOST_HOURS) && isWeather(cold, wind));
        if (asked.status == ARRIVED) {
            return 0;
        }
        trial.copyFrom(sea);
        Ship tried = trial.shipAt(ship);
        for (int gone = 1; gone <= hours; gone++) {
            trial.passHour(ports, cold, wind);
            if (tried.status == ARRIVED) {
                return gone;
            }
        }
        return NONE;
    }

    public long digest() {
        long d = 4802;
        for (int what = 0; what < SEA_QUESTIONS; what++) {
            d = d * 31 + many(what);
        }
        for (int cell = 0; cell < CELLS; cell++) {
            for (int what = 0; what < CELL_QUESTIONS; what++) {
                d = d * 31 + ofCell(cell, what);
            }
        }
        for (int breaker = 0; breaker < sea.breakerCount; breaker++) {
            for (int what = 0; what < BREAKER_QUESTIONS; what++) {
                d = d * 31 + ofBreaker(breaker, what);
            }
            d = d * 31 + helpNext(breaker);
        }
        for (int ship = 0; ship < sea.shipCount; ship++) {
            for (int what = 0; what < SHIP_QUESTIONS; what++) {
                d = d * 31 + ofShip(ship, what);
            }
            d = d * 31 + way(ship, portCellOf(sea.shipAt(ship)));
            d = d * 31 + toBreak(ship);
            d = d * 31 + arriveIn(ship, 6, 1, NONE);
        }
        for (int port = 0; port < ports.count; port++) {
            d = d * 31 + inForce(port, sea.now);
            d = d * 31 + inForce(port, 100);
        }
        return d;
    }

    private int portCellOf(Ship ship) {
        return ports.portAt(ship.port).cell;
    }

    private int channelsNeeded(Ship ship) {
        for (int number = 0; number < CELLS; number++) {
            chart.setPrice(number, breakingPrice(ship, sea.cellAt(number)));
        }
        return chart.cheapest(ship.cell, portCellOf(ship));
    }

    private static int breakingPrice(Ship ship, Cell cell) {
        if (canEnter(ship, cell)) {
            return 0;
        }
        boolean helped = !cell.land && ship.hindrance(cell.worthInChannel(), true) == NONE;
        return helped ? 1 : NONE;
    }

    private static boolean canEnter(Ship ship, Cell cell) {
        return !cell.land && ship.hindrance(cell.worth(), true) == NONE;
    }

    private static boolean canTake(Breaker breaker, Ship ship) {
        return ship.status != ARRIVED && ship.cell == breaker.cell;
    }

    private static boolean isWeather(int cold, int wind) {
        return within(cold, 0, MOST_COLD) && within(wind, NONE, WEST);
    }

    private static boolean within(int value, int least, int most) {
        return value >= least && value <= most;
    }

    private static void demandArgument(boolean allowed) {
        if (!allowed) {
            throw new IllegalArgumentException("an argument is outside of what the call takes");
        }
    }

    private static void demandState(boolean allowed) {
        if (!allowed) {
            throw new IllegalStateException("the call is not possible as the sea is now");
        }
    }

    private static int neighbour(int cell, int direction) {
        int column = cell % COLUMNS;
        switch (direction) {
            case NORTH:
                return cell >= COLUMNS ? cell - COLUMNS : NONE;
            case EAST:
                return column < COLUMNS - 1 ? cell + 1 : NONE;
            case SOUTH:
                return cell < CELLS - COLUMNS ? cell + COLUMNS : NONE;
            case WEST:
                return column > 0 ? cell - 1 : NONE;
            default:
                return NONE;
        }
    }

    /** ROWS and COLUMNS between two CELLS, added: 1 for NEIGHBOURS, and for them alone. */
    private static int distance(int one, int other) {
        int rows = Math.abs(one / COLUMNS - other / COLUMNS);
        int columns = Math.abs(one % COLUMNS - other % COLUMNS);
        return rows + columns;
    }

    private static final class Cell {
        int ice;
        int press;
        int channel;
        boolean land;
        /** What it got less what it gave, while the ice drifts: all CELLS give by what they had ahead of that. */
        int gain;

        int worth() {
            return (channel > 0 ? ice / 4 : ice) + 5 * press;
        }

        int worthInChannel() {
            return ice / 4 + 5 * press;
        }

        int worthUnbroken() {
            return ice + 5 * press;
        }

        void becomeLand() {
            land = true;
            ice = 0;
            press = 0;
            channel = 0;
        }

        void giveTenthTo(Cell taker) {
            if (!taker.land) {
                int tenth = ice / 10;
                gain -= tenth;
                taker.gain += tenth;
            }
        }

        void settleDrift() {
            ice += gain;
            press = Math.max(0, gain);
            gain = 0;
        }

        /** Returns how much ICE came. */
        int freeze(int cold) {
            if (land || ice >= MOST_ICE) {
                return 0;
            }
            int added = Math.min(cold, MOST_ICE - ice);
            ice += added;
            return added;
        }

        void closeChannel() {
            channel = Math.max(0, channel - (press >= 3 ? 3 : 1));
        }

        void copyFrom(Cell other) {
            ice = other.ice;
            press = other.press;
            channel = other.channel;
            land = other.land;
            gain = other.gain;
        }
    }

    private static final class Route {
        final int[] cells = new int[MOST_ROUTE];
        int size;

        boolean isFull() {
            return size >= cells.length;
        }

        int add(int cell) {
            if (size >= 0 && size < cells.length) {
                cells[size] = cell;
                size++;
            }
            return size;
        }

        int first() {
            return size > 0 && cells.length > 0 ? cells[0] : NONE;
        }

        void takeFirst() {
            for (int i = 1; i < size && i < cells.length; i++) {
                cells[i - 1] = cells[i];
            }
            size = Math.max(0, size - 1);
        }

        /** Returns how many CELLS it had. */
        int drop() {
            int had = size;
            size = 0;
            return had;
        }

        void copyFrom(Route other) {
            for (int i = 0; i < cells.length && i < other.cells.length; i++) {
                cells[i] = other.cells[i];
            }
            size = other.size;
        }
    }

    private static final class Breaker {
        final Route route = new Route();
        int cell;
        int fuel;
        int stuck;
        /** The CELL from which it went in this HOUR, NONE if it did not go. */
        int left = NONE;

        void enter(int target, int cost) {
            fuel -= cost;
            left = cell;
            cell = target;
            route.takeFirst();
        }

        void copyFrom(Breaker other) {
            route.copyFrom(other.route);
            cell = other.cell;
            fuel = other.fuel;
            stuck = other.stuck;
            left = other.left;
        }
    }

    private static final class Ship {
        final Route route = new Route();
        final int[] waits = new int[REASONS];
        int cell;
        int rank;
        int bears;
        int power;
        int port;
        int status = FREE;
        int breaker = NONE;
        int damage;
        int dues;
        int arrivedAt = NONE;

        void setClass(int told) {
            rank = told;
            switch (told) {
                case 0:
                    bears = 10;
                    break;
                case 1:
                    bears = 30;
                    break;
                case 2:
                    bears = 50;
                    break;
                case 3:
                    bears = 80;
                    break;
                default:
                    bears = 120;
                    break;
            }
        }

        /** Why it can not enter what is WORTH so much, NONE if it can: by itself, or by a BREAKER's power. */
        int hindrance(int worth, boolean byItself) {
            if (byItself && worth > 10 * power) {
                return BY_POWER;
            }
            return worth > bears ? BY_BEARING : NONE;
        }

        boolean isBound(int way, int by) {
            return status == way && breaker == by;
        }

        void bind(int way, int by) {
            status = way;
            breaker = by;
        }

        void setFree() {
            status = FREE;
            breaker = NONE;
        }

        /** Goes behind its BREAKER: returns the REASON for which it WAITS, NONE if it went. */
        int follow(int target, int worth) {
            int reason = hindrance(worth, status != TOWED);
            if (reason != NONE) {
                setFree();
                return reason;
            }
            cell = target;
            route.drop();
            dues += status == TOWED ? TOWED_DUES : LED_DUES;
            return NONE;
        }

        void arrive(int hour) {
            bind(ARRIVED, NONE);
            route.drop();
            arrivedAt = hour;
        }

        void countWait(int reason) {
            if (reason >= 0 && reason < waits.length) {
                waits[reason]++;
            }
        }

        int waitsBy(int reason) {
            return reason >= 0 && reason < waits.length ? waits[reason] : 0;
        }

        int allWaits() {
            int sum = 0;
            for (int reason = 0; reason < waits.length; reason++) {
                sum += waits[reason];
            }
            return sum;
        }

        void copyFrom(Ship other) {
            route.copyFrom(other.route);
            for (int reason = 0; reason < waits.length; reason++) {
                waits[reason] = other.waitsBy(reason);
            }
            cell = other.cell;
            rank = other.rank;
            bears = other.bears;
            power = other.power;
            port = other.port;
            status = other.status;
            breaker = other.breaker;
            damage = other.damage;
            dues = other.dues;
            arrivedAt = other.arrivedAt;
        }
    }

    private static final class Port {
        final int[] leasts = new int[MOST_RULES];
        final int[] hours = new int[MOST_RULES];
        final boolean[] exempts = new boolean[MOST_SHIPS];
        int rules;
        int cell;

        void addRule(int least, int hour) {
            if (rules >= 0 && rules < leasts.length && rules < hours.length) {
                leasts[rules] = least;
                hours[rules] = hour;
                rules++;
            }
        }

        int leastAt(int hour) {
            int least = 0;
            for (int i = 0; i < rules && i < leasts.length && i < hours.length; i++) {
                if (hours[i] <= hour) {
                    least = leasts[i];
                }
            }
            return least;
        }

        void makeExempt(int ship) {
            if (ship >= 0 && ship < exempts.length) {
                exempts[ship] = true;
            }
        }

        boolean isExempt(int ship) {
            return ship >= 0 && ship < exempts.length && exempts[ship];
        }

        boolean letsIn(int ship, int rank, int hour) {
            return rank >= leastAt(hour) || isExempt(ship);
        }
    }

    private static final class Ports {
        final Port[] all = new Port[MOST_PORTS];
        int count;

        Ports() {
            for (int i = 0; i < all.length; i++) {
                all[i] = new Port();
            }
        }

        Port portAt(int number) {
            if (number < 0 || number >= count || number >= all.length) {
                throw new IndexOutOfBoundsException("there is no such port");
            }
            return all[number];
        }

        /** Returns its number. */
        int found(int cell) {
            int number = count;
            count++;
            portAt(number).cell = cell;
            return number;
        }

        boolean isPort(int cell) {
            for (int i = 0; i < count; i++) {
                if (portAt(i).cell == cell) {
                    return true;
                }
            }
            return false;
        }
    }

    /** All that HOURS change. PORTS stand outside: a trial looks at the same ones, as no HOUR changes them. */
    private static final class Sea {
        final Cell[] cells = new Cell[CELLS];
        final Breaker[] breakers = new Breaker[MOST_BREAKERS];
        final Ship[] ships = new Ship[MOST_SHIPS];
        int breakerCount;
        int shipCount;
        int now;
        /** ICE that came by FREEZING ever. */
        int frozen;

        Sea() {
            for (int i = 0; i < cells.length; i++) {
                cells[i] = new Cell();
            }
            for (int i = 0; i < breakers.length; i++) {
                breakers[i] = new Breaker();
            }
            for (int i = 0; i < ships.length; i++) {
                ships[i] = new Ship();
            }
        }

        Cell cellAt(int number) {
            if (number < 0 || number >= cells.length) {
                throw new IndexOutOfBoundsException("there is no such cell");
            }
            return cells[number];
        }

        Breaker breakerAt(int number) {
            if (number < 0 || number >= breakerCount || number >= breakers.length) {
                throw new IndexOutOfBoundsException("there is no such breaker");
            }
            return breakers[number];
        }

        Ship shipAt(int number) {
            if (number < 0 || number >= shipCount || number >= ships.length) {
                throw new IndexOutOfBoundsException("there is no such ship");
            }
            return ships[number];
        }

        /** Returns its number. */
        int addBreaker(int cell, int fuel) {
            int number = breakerCount;
            breakerCount++;
            Breaker added = breakerAt(number);
            added.cell = cell;
            added.fuel = fuel;
            return number;
        }

        /** Returns its number. */
        int addShip(int cell, int rank, int power, int port) {
            int number = shipCount;
            shipCount++;
            Ship added = shipAt(number);
            added.cell = cell;
            added.setClass(rank);
            added.power = power;
            added.port = port;
            return number;
        }

        /** Lets an HOUR go by, and returns how many SHIPS ARRIVED in it. */
        int passHour(Ports ports, int cold, int wind) {
            now++;
            drift(wind);
            for (int i = 0; i < cells.length; i++) {
                frozen += cells[i].freeze(cold);
                cells[i].closeChannel();
            }
            for (int i = 0; i < breakerCount; i++) {
                moveBreaker(breakerAt(i));
            }
            int arrived = 0;
            for (int i = 0; i < shipCount; i++) {
                arrived += moveShip(i, ports) ? 1 : 0;
            }
            return arrived;
        }

        private void drift(int wind) {
            for (int i = 0; i < cells.length; i++) {
                int taker = neighbour(i, wind);
                if (taker != NONE) {
                    cells[i].giveTenthTo(cellAt(taker));
                }
            }
            for (int i = 0; i < cells.length; i++) {
                cells[i].settleDrift();
            }
        }

        private void moveBreaker(Breaker breaker) {
            breaker.left = NONE;
            if (breaker.route.size == 0) {
                return;
            }
            int next = breaker.route.first();
            Cell target = cellAt(next);
            if (distance(breaker.cell, next) != 1 || target.land) {
                breaker.route.drop();
                return;
            }
            int cost = 3 + target.ice / 30;
            if (target.worthUnbroken() > MOST_BROKEN || breaker.fuel < cost) {
                breaker.stuck++;
                return;
            }
            breaker.enter(next, cost);
            target.channel = CHANNEL_HOURS;
        }

        /** Returns whether it ARRIVED. */
        private boolean moveShip(int number, Ports ports) {
            Ship ship = shipAt(number);
            if (ship.status == ARRIVED) {
                return false;
            }
            int reason = ship.status == FREE ? goFree(ship) : goBound(ship);
            Port port = ports.portAt(ship.port);
            if (ship.cell == port.cell) {
                if (port.letsIn(number, ship.rank, now)) {
                    ship.arrive(now);
                    return true;
                }
                reason = BY_RULE;
            }
            if (reason != NONE) {
                ship.countWait(reason);
                ship.damage += cellAt(ship.cell).press >= HARMFUL_PRESS ? 1 : 0;
            }
            return false;
        }

        /** Returns the REASON for which it WAITS, NONE if it went. */
        private int goFree(Ship ship) {
            if (ship.route.size == 0) {
                return NOTHING_TOLD;
            }
            int next = ship.route.first();
            Cell target = cellAt(next);
            if (distance(ship.cell, next) != 1 || target.land) {
                ship.route.drop();
                return NOTHING_TOLD;
            }
            int reason = ship.hindrance(target.worth(), true);
            if (reason == NONE) {
                ship.cell = next;
                ship.route.takeFirst();
            }
            return reason;
        }

        /** Returns the REASON for which it WAITS, NONE if it went. */
        private int goBound(Ship ship) {
            Breaker breaker = breakerAt(ship.breaker);
            if (breaker.left == ship.cell) {
                return ship.follow(breaker.cell, cellAt(breaker.cell).worth());
            }
            if (breaker.left == NONE && breaker.cell == ship.cell) {
                return BY_BREAKER;
            }
            ship.setFree();
            return goFree(ship);
        }

        boolean isTaken(int cell) {
            for (int i = 0; i < breakerCount; i++) {
                if (breakerAt(i).cell == cell) {
                    return true;
                }
            }
            return countShipsIn(cell) > 0;
        }

        /** SHIPS there that have not ARRIVED. */
        int countShipsIn(int cell) {
            int count = 0;
            for (int i = 0; i < shipCount; i++) {
                Ship ship = shipAt(i);
                count += ship.cell == cell && ship.status != ARRIVED ? 1 : 0;
            }
            return count;
        }

        int countLed(int breaker) {
            int count = 0;
            for (int i = 0; i < shipCount; i++) {
                count += shipAt(i).isBound(LED, breaker) ? 1 : 0;
            }
            return count;
        }

        int towedBy(int breaker) {
            for (int i = 0; i < shipCount; i++) {
                if (shipAt(i).isBound(TOWED, breaker)) {
                    return i;
                }
            }
            return NONE;
        }

        int countArrived() {
            int count = 0;
            for (int i = 0; i < shipCount; i++) {
                count += shipAt(i).status == ARRIVED ? 1 : 0;
            }
            return count;
        }

        int allWaits() {
            int sum = 0;
            for (int i = 0; i < shipCount; i++) {
                sum += shipAt(i).allWaits();
            }
            return sum;
        }

        int allDues() {
            int sum = 0;
            for (int i = 0; i < shipCount; i++) {
                sum += shipAt(i).dues;
            }
            return sum;
        }

        int allDamage() {
            int sum = 0;
            for (int i = 0; i < shipCount; i++) {
                sum += shipAt(i).damage;
            }
            return sum;
        }

        int allIce() {
            int sum = 0;
            for (int i = 0; i < cells.length; i++) {
                sum += cells[i].ice;
            }
            return sum;
        }

        int countChannels() {
            int count = 0;
            for (int i = 0; i < cells.length; i++) {
                count += cells[i].channel > 0 ? 1 : 0;
            }
            return count;
        }

        /** CELLS that are no LAND. */
        int countOpen() {
            int count = 0;
            for (int i = 0; i < cells.length; i++) {
                count += cells[i].land ? 0 : 1;
            }
            return count;
        }

        void copyFrom(Sea other) {
            now = other.now;
            frozen = other.frozen;
            breakerCount = other.breakerCount;
            shipCount = other.shipCount;
            for (int i = 0; i < cells.length; i++) {
                cells[i].copyFrom(other.cellAt(i));
            }
            for (int i = 0; i < breakerCount; i++) {
                breakerAt(i).copyFrom(other.breakerAt(i));
            }
            for (int i = 0; i < shipCount; i++) {
                shipAt(i).copyFrom(other.shipAt(i));
            }
        }
    }

    /** The cheapest ways from CELL to CELL, when entering each has a price. */
    private static final class Chart {
        /** Above what any way costs: one enters each CELL once at most, for 1 at most. */
        static final int FAR = 1000;
        /** What it costs to enter a CELL; NONE where nothing goes. */
        final int[] prices = new int[CELLS];
        final int[] costs = new int[CELLS];

        void setPrice(int cell, int price) {
            if (cell >= 0 && cell < prices.length) {
                prices[cell] = price;
            }
        }

        /** Returns NONE if there is no way. */
        int cheapest(int from, int to) {
            for (int cell = 0; cell < costs.length; cell++) {
                costs[cell] = cell == from ? 0 : FAR;
            }
            boolean changed = true;
            for (int round = 0; round < CELLS && changed; round++) {
                changed = relax();
            }
            int cost = costAt(to);
            return cost < FAR ? cost : NONE;
        }

        /** Returns whether a CELL became cheaper. */
        private boolean relax() {
            boolean changed = false;
            for (int cell = 0; cell < costs.length && cell < prices.length; cell++) {
                if (prices[cell] != NONE) {
                    int cost = cheapestNeighbour(cell) + prices[cell];
                    if (cost < costs[cell]) {
                        costs[cell] = cost;
                        changed = true;
                    }
                }
            }
            return changed;
        }

        private int cheapestNeighbour(int cell) {
            int cheapest = FAR;
            for (int direction = NORTH; direction <= WEST; direction++) {
                cheapest = Math.min(cheapest, costAt(neighbour(cell, direction)));
            }
            return cheapest;
        }

        /** Beyond the sea all is FAR. */
        private int costAt(int cell) {
            return cell >= 0 && cell < costs.length ? costs[cell] : FAR;
        }
    }
}
