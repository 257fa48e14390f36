import java.util.Arrays;

/** A map that five replicas keep together by agreeing, slot by slot, on one list of commands. */
public final class MajorityMap {
    private static final int REPLICAS = 5;
    private static final int EVERYONE = (1 << REPLICAS) - 1;
    private static final int FIRST_MEMBERS = 7;
    private static final int SLOTS = 24;
    private static final int WINDOW = 3;
    private static final int KEYS = 4;
    private static final int MOST_REQUESTS = 40;
    private static final int MOST_WAITING = 32;
    private static final int VOTE_FACTOR = 64;

    private static final int NOTHING = 0;
    private static final int NO_COMMAND = -1;
    private static final int NO_BALLOT = -1;

    private static final int READ = 0;
    private static final int PUT = 1;
    private static final int ADD = 2;
    private static final int CLAIM = 3;
    private static final int MEMBERS = 4;

    private static final int PREPARE = 1;
    private static final int PROMISE = 2;
    private static final int ACCEPT = 3;
    private static final int VOTED = 4;
    private static final int LEARN = 5;
    private static final int REFUSE = 6;
    private static final int FETCH = 7;
    private static final int STATE = 8;

    private final Client client;
    private final Net net;
    private final Replica[] replicas;

    public MajorityMap() {
        client = new Client();
        net = new Net();
        replicas = new Replica[REPLICAS];
        State first = new State();
        for (int r = 0; r < REPLICAS; r++) {
            replicas[r] = new Replica(r, client, net, first);
        }
    }

    public int ask(int kind, int key, int v) {
        if (kind < READ || kind > MEMBERS || key < 0 || key >= KEYS) {
            return -1;
        }
        if (kind == MEMBERS && !isMembership(v)) {
            return -1;
        }
        return client.add(new Request(kind, key, v));
    }

    public int send(int q, int r) {
        if (client.find(q) == null || !isReplica(r)) {
            return -1;
        }
        return replicas[r].takeRequest(q);
    }

    public int timer(int r) {
        if (!isReplica(r) || !replicas[r].up) {
            return -1;
        }
        int before = net.size();
        replicas[r].strike();
        return net.size() - before;
    }

    public int deliver(int i) {
        Message taken = net.take(i);
        if (taken == null) {
            return -1;
        }
        Replica receiver = replicas[taken.to];
        if (!receiver.up) {
            return -2;
        }
        int before = net.size();
        receiver.receive(taken);
        return net.size() - before;
    }

    public boolean drop(int i) {
        return net.take(i) != null;
    }

    public boolean copy(int i) {
        Message original = net.at(i);
        return original != null && net.put(original);
    }

    public boolean crash(int r) {
        if (!isReplica(r) || !replicas[r].up) {
            return false;
        }
        replicas[r].goDown();
        return true;
    }

    public boolean restart(int r) {
        if (!isReplica(r) || replicas[r].up) {
            return false;
        }
        replicas[r].up = true;
        return true;
    }

    public int cut(int r) {
        if (!isReplica(r) || !replicas[r].up) {
            return -1;
        }
        return replicas[r].keepSnapshot(replicas[r].present);
    }

    public boolean fetch(int r, int p) {
        if (!isReplica(r) || !isReplica(p) || r == p || !replicas[r].up) {
            return false;
        }
        return net.put(new Message(FETCH, r, p, 0, replicas[r].present.slot, NOTHING));
    }

    public int waiting() {
        return net.size();
    }

    public int message(int i, int k) {
        Message shown = net.at(i);
        if (shown == null) {
            return -1;
        }
        switch (k) {
            case 0: return shown.kind;
            case 1: return shown.from;
            case 2: return shown.to;
            case 3: return shown.number();
            case 4: return shown.load();
            case 5: return shown.command;
            default: return -1;
        }
    }

    public int look(int r, int k) {
        if (!isReplica(r)) {
            return -1;
        }
        Replica seen = replicas[r];
        switch (k) {
            case 0: return seen.up ? 1 : 0;
            case 1: return seen.promised;
            case 2: return seen.snapshot.slot;
            case 3: return seen.present.slot;
            case 4: return seen.campaigns() ? seen.campaign.ballot : 0;
            case 5: return seen.leads() ? 1 : 0;
            case 6: return seen.present.membershipOf(seen.present.slot + 1);
            case 7: return seen.campaigns() ? seen.campaign.supporters : 0;
            default: return -1;
        }
    }

    public int value(int r, int key) {
        if (!isReplica(r) || key < 0 || key >= KEYS) {
            return 0;
        }
        return replicas[r].present.values[key];
    }

    public int vote(int r, int s) {
        if (!isReplica(r) || !isSlot(s)) {
            return -1;
        }
        Votes votes = replicas[r].votes;
        return votes.has(s) ? VOTE_FACTOR * votes.ballotOf(s) + votes.commandOf(s) : 0;
    }

    public int reply(int q) {
        Request asked = client.find(q);
        return asked == null ? 0 : asked.latestAnswer;
    }

    public int heard(int q) {
        Request asked = client.find(q);
        return asked == null ? 0 : asked.timesAnswered;
    }

    private static boolean isReplica(int r) {
        return r >= 0 && r < REPLICAS;
    }

    private static boolean isSlot(int s) {
        return s >= 1 && s <= SLOTS;
    }

    private static boolean isMembership(int set) {
        return set >= 0 && set <= EVERYONE && Integer.bitCount(set) >= 2;
    }

    private static boolean holdsMajority(int set, int membership) {
        return 2 * Integer.bitCount(set & membership) > Integer.bitCount(membership);
    }

    /** A request, with what the client has heard of it. */
    private static final class Request {
        final int kind;
        final int key;
        final int v;
        int latestAnswer;
        int timesAnswered;

        Request(int kind, int key, int v) {
            this.kind = kind;
            this.key = key;
            this.v = v;
        }
    }

    /** The one who asks: all requests, by their numbers from 1 on. */
    private static final class Client {
        private final Request[] requests = new Request[MOST_REQUESTS + 1];
        private int count;

        int add(Request asked) {
            if (count >= MOST_REQUESTS) {
                return -1;
            }
            count++;
            requests[count] = asked;
            return count;
        }

        Request find(int q) {
            return q >= 1 && q <= count ? requests[q] : null;
        }

        void hear(int q, int answer) {
            Request asked = find(q);
            if (asked != null) {
                asked.latestAnswer = answer;
                asked.timesAnswered++;
            }
        }
    }

    /** What the commands up to a slot have made. It is never changed, so that snapshots and messages may share it. */
    private static final class State {
        final int slot;
        final int[] values;
        private final int[] answers;
        private long done;
        private int newestMembers;
        private final int middleMembers;
        private final int oldestMembers;

        State() {
            slot = 0;
            values = new int[KEYS];
            answers = new int[MOST_REQUESTS + 1];
            newestMembers = FIRST_MEMBERS;
            middleMembers = FIRST_MEMBERS;
            oldestMembers = FIRST_MEMBERS;
        }

        private State(State before) {
            slot = before.slot + 1;
            values = before.values.clone();
            answers = before.answers.clone();
            done = before.done;
            newestMembers = before.newestMembers;
            middleMembers = before.newestMembers;
            oldestMembers = before.middleMembers;
        }

        /** The state after one command more; a command that is NOTHING comes with no request. */
        State after(int command, Request request) {
            State next = new State(this);
            if (request != null && !isDone(command)) {
                next.act(command, request);
            }
            return next;
        }

        private void act(int q, Request request) {
            int answer = values[request.key];
            switch (request.kind) {
                case PUT:
                    values[request.key] = request.v;
                    break;
                case ADD:
                    answer += request.v;
                    values[request.key] = answer;
                    break;
                case CLAIM:
                    if (answer == 0) {
                        values[request.key] = request.v;
                    }
                    break;
                case MEMBERS:
                    answer = newestMembers;
                    newestMembers = request.v;
                    break;
                default:
                    break;
            }
            answers[q] = answer;
            done |= 1L << q;
        }

        boolean isDone(int q) {
            return q >= 1 && q <= MOST_REQUESTS && (done >> q & 1L) != 0;
        }

        int answerOf(int q) {
            return isDone(q) ? answers[q] : 0;
        }

        int countDone() {
            return Long.bitCount(done);
        }

        /** A state tells the memberships of the next three slots alone: no one is a member of any other. */
        int membershipOf(int s) {
            switch (s - slot) {
                case 1: return oldestMembers;
                case 2: return middleMembers;
                case 3: return newestMembers;
                default: return 0;
            }
        }

        int membersAhead() {
            return oldestMembers | middleMembers | newestMembers;
        }
    }

    /** At most one command for each slot. */
    private static final class Commands {
        private final int[] commands = new int[SLOTS + 1];

        Commands() {
            Arrays.fill(commands, NO_COMMAND);
        }

        boolean has(int s) {
            return isSlot(s) && commands[s] != NO_COMMAND;
        }

        int at(int s) {
            return isSlot(s) ? commands[s] : NO_COMMAND;
        }

        void put(int s, int command) {
            if (isSlot(s)) {
                commands[s] = command;
            }
        }

        boolean hasAbove(int s) {
            for (int above = SLOTS; above > s; above--) {
                if (has(above)) {
                    return true;
                }
            }
            return false;
        }

        boolean hasCommandAbove(int s, int command) {
            for (int above = SLOTS; above > s; above--) {
                if (at(above) == command) {
                    return true;
                }
            }
            return false;
        }

        void forgetUpTo(int last) {
            for (int s = 1; s <= last && s <= SLOTS; s++) {
                commands[s] = NO_COMMAND;
            }
        }
    }

    /** At most one vote for each slot; as no ballot is 0, a ballot of 0 says that there is none. */
    private static final class Votes {
        private final int[] ballots = new int[SLOTS + 1];
        private final int[] commands = new int[SLOTS + 1];

        boolean has(int s) {
            return isSlot(s) && ballots[s] != 0;
        }

        int ballotOf(int s) {
            return has(s) ? ballots[s] : 0;
        }

        int commandOf(int s) {
            return has(s) ? commands[s] : NO_COMMAND;
        }

        void put(int s, int ballot, int command) {
            if (isSlot(s)) {
                ballots[s] = ballot;
                commands[s] = command;
            }
        }

        boolean hasAbove(int s) {
            for (int above = SLOTS; above > s; above--) {
                if (has(above)) {
                    return true;
                }
            }
            return false;
        }

        int countUpTo(int last) {
            int found = 0;
            for (int s = 1; s <= last && s <= SLOTS; s++) {
                if (has(s)) {
                    found++;
                }
            }
            return found;
        }

        void forgetUpTo(int last) {
            for (int s = 1; s <= last && s <= SLOTS; s++) {
                ballots[s] = 0;
            }
        }

        /** Of two votes for a slot the one with the greater ballot stays. */
        void merge(Votes came) {
            for (int s = 1; s <= SLOTS; s++) {
                if (came.ballotOf(s) > ballotOf(s)) {
                    put(s, came.ballotOf(s), came.commandOf(s));
                }
            }
        }

        /** A message carries the votes as they were when it was sent, so it can't share them. */
        Votes duplicate() {
            Votes twin = new Votes();
            twin.merge(this);
            return twin;
        }
    }

    /** One message. It is never changed, so that it may wait twice. */
    private static final class Message {
        final int kind;
        final int from;
        final int to;
        final int ballot;
        final int slot;
        final int command;
        final Votes votes;
        final State state;

        Message(int kind, int from, int to, int ballot, int slot, int command) {
            this.kind = kind;
            this.from = from;
            this.to = to;
            this.ballot = ballot;
            this.slot = slot;
            this.command = command;
            votes = null;
            state = null;
        }

        Message(int kind, int from, int to, int ballot, Votes votes, State state) {
            this.kind = kind;
            this.from = from;
            this.to = to;
            this.ballot = ballot;
            slot = state == null ? 0 : state.slot;
            command = NOTHING;
            this.votes = votes;
            this.state = state;
        }

        int number() {
            return kind == PREPARE || kind == PROMISE || kind == REFUSE ? ballot : slot;
        }

        int load() {
            if (kind == PROMISE && votes != null) {
                return votes.countUpTo(SLOTS);
            }
            if (kind == STATE && state != null) {
                return state.countDone();
            }
            return 0;
        }
    }

    /** The waiting messages, the oldest first. */
    private static final class Net {
        private final Message[] messages = new Message[MOST_WAITING];
        private int count;

        int size() {
            return count;
        }

        Message at(int i) {
            return i >= 0 && i < count ? messages[i] : null;
        }

        boolean put(Message sent) {
            if (count >= MOST_WAITING) {
                return false;
            }
            messages[count] = sent;
            count++;
            return true;
        }

        Message take(int i) {
            Message taken = at(i);
            if (taken != null) {
                count--;
                for (int j = i; j < count; j++) {
                    messages[j] = messages[j + 1];
                }
                messages[count] = null;
            }
            return taken;
        }
    }

    /** A replica's attempt to lead. It is used again for the replica's next campaign. */
    private static final class Campaign {
        int ballot = NO_BALLOT;
        int supporters;
        final Votes collected = new Votes();
        final Commands proposed = new Commands();
        private final int[] voters = new int[SLOTS + 1];

        void begin(int newBallot, int self, Votes own) {
            ballot = newBallot;
            supporters = self;
            collected.forgetUpTo(SLOTS);
            collected.merge(own);
            proposed.forgetUpTo(SLOTS);
        }

        void end() {
            ballot = NO_BALLOT;
        }

        void propose(int s, int command) {
            if (isSlot(s)) {
                proposed.put(s, command);
                voters[s] = 0;
            }
        }

        void addVoter(int s, int r) {
            if (isSlot(s)) {
                voters[s] |= 1 << r;
            }
        }

        int votersFor(int s) {
            return isSlot(s) ? voters[s] : 0;
        }
    }

    /** One of the five: what it keeps, what a crash loses, and what it does with each message. */
    private static final class Replica {
        private final int id;
        private final Client client;
        private final Net net;
        boolean up = true;
        int promised;
        final Votes votes = new Votes();
        State snapshot;
        State present;
        private final Commands known = new Commands();
        final Campaign campaign = new Campaign();

        Replica(int id, Client client, Net net, State first) {
            this.id = id;
            this.client = client;
            this.net = net;
            snapshot = first;
            present = first;
        }

        boolean campaigns() {
            return campaign.ballot == promised;
        }

        boolean leads() {
            return campaigns() && isSupportedFor(present.slot + 1);
        }

        private boolean isSupportedFor(int s) {
            return holdsMajority(campaign.supporters, present.membershipOf(s));
        }

        private boolean isOpen(int s) {
            return isSlot(s) && !known.has(s) && !campaign.proposed.has(s);
        }

        private int others() {
            return EVERYONE & ~(1 << id);
        }

        void goDown() {
            up = false;
            known.forgetUpTo(SLOTS);
            present = snapshot;
            campaign.end();
        }

        /** Answers how many votes were forgotten by it. */
        int keepSnapshot(State kept) {
            int forgotten = votes.countUpTo(kept.slot);
            snapshot = kept;
            votes.forgetUpTo(kept.slot);
            known.forgetUpTo(kept.slot);
            return forgotten;
        }

        private void install(State came) {
            if (came != null && came.slot > present.slot) {
                present = came;
                keepSnapshot(came);
            }
        }

        int takeRequest(int q) {
            if (!up) {
                return 0;
            }
            if (present.isDone(q)) {
                client.hear(q, present.answerOf(q));
                return 1;
            }
            if (!campaigns()) {
                return 0;
            }
            int e = present.slot;
            if (known.hasCommandAbove(e, q) || campaign.proposed.hasCommandAbove(e, q)) {
                return 3;
            }
            int s = firstOpenAhead();
            if (!isSlot(s) || !isSupportedFor(s)) {
                return 4;
            }
            propose(s, q);
            return 2;
        }

        /** Answers 0 if there is none among the next three. */
        private int firstOpenAhead() {
            int last = present.slot + WINDOW;
            for (int s = present.slot + 1; s <= last; s++) {
                if (isOpen(s)) {
                    return s;
                }
            }
            return 0;
        }

        void strike() {
            int helpers = present.membersAhead() & others();
            if (campaigns()) {
                sendToEach(helpers & ~campaign.supporters, PREPARE, campaign.ballot, 0, NOTHING);
                repeatProposals();
            } else {
                promised = leastBallotAbove(promised);
                campaign.begin(promised, 1 << id, votes);
                sendToEach(helpers, PREPARE, campaign.ballot, 0, NOTHING);
            }
        }

        private int leastBallotAbove(int ballot) {
            int round = Math.floorDiv(ballot - id, REPLICAS) + 1;
            return REPLICAS * Math.max(round, 1) + id;
        }

        private void repeatProposals() {
            int last = present.slot + WINDOW;
            for (int s = present.slot + 1; s <= last; s++) {
                if (campaign.proposed.has(s) && !known.has(s)) {
                    int missing = present.membershipOf(s) & others() & ~campaign.votersFor(s);
                    sendToEach(missing, ACCEPT, campaign.ballot, s, campaign.proposed.at(s));
                }
            }
        }

        private void sendToEach(int receivers, int kind, int ballot, int slot, int command) {
            for (int to = 0; to < REPLICAS; to++) {
                if ((receivers >> to & 1) != 0) {
                    net.put(new Message(kind, id, to, ballot, slot, command));
                }
            }
        }

        private void propose(int s, int command) {
            int members = present.membershipOf(s);
            campaign.propose(s, command);
            if ((members >> id & 1) != 0) {
                votes.put(s, campaign.ballot, command);
                campaign.addVoter(s, id);
            }
            sendToEach(members & others(), ACCEPT, campaign.ballot, s, command);
        }

        void receive(Message came) {
            boolean goesOn = false;
            switch (came.kind) {
                case PREPARE:
                    onPrepare(came);
                    break;
                case PROMISE:
                    goesOn = onPromise(came);
                    break;
                case ACCEPT:
                    onAccept(came);
                    break;
                case VOTED:
                    goesOn = onVoted(came);
                    break;
                case LEARN:
                    goesOn = onLearn(came);
                    break;
                case REFUSE:
                    promised = Math.max(promised, came.ballot);
                    break;
                case FETCH:
                    onFetch(came);
                    break;
                case STATE:
                    install(came.state);
                    goesOn = true;
                    break;
                default:
                    break;
            }
            if (goesOn) {
                goOn();
            }
        }

        private void refuse(int to) {
            net.put(new Message(REFUSE, id, to, promised, 0, NOTHING));
        }

        private void onPrepare(Message came) {
            if (came.ballot < promised) {
                refuse(came.from);
                return;
            }
            promised = came.ballot;
            net.put(new Message(PROMISE, id, came.from, promised, votes.duplicate(), snapshot));
        }

        private boolean onPromise(Message came) {
            if (!campaigns() || came.ballot != campaign.ballot) {
                return false;
            }
            install(came.state);
            campaign.supporters |= 1 << came.from;
            if (came.votes != null) {
                campaign.collected.merge(came.votes);
            }
            return true;
        }

        private void onAccept(Message came) {
            if (came.ballot < promised) {
                refuse(came.from);
                return;
            }
            promised = came.ballot;
            if (came.slot <= snapshot.slot) {
                net.put(new Message(STATE, id, came.from, 0, null, snapshot));
            } else {
                votes.put(came.slot, came.ballot, came.command);
                net.put(new Message(VOTED, id, came.from, came.ballot, came.slot, NOTHING));
            }
        }

        private boolean onVoted(Message came) {
            int s = came.slot;
            if (!campaigns() || came.ballot != campaign.ballot || s <= present.slot) {
                return false;
            }
            if (known.has(s) || !campaign.proposed.has(s)) {
                return false;
            }
            campaign.addVoter(s, came.from);
            if (!holdsMajority(campaign.votersFor(s), present.membershipOf(s))) {
                return false;
            }
            int command = campaign.proposed.at(s);
            known.put(s, command);
            sendToEach(others(), LEARN, 0, s, command);
            return true;
        }

        private boolean onLearn(Message came) {
            if (came.slot <= present.slot || known.has(came.slot)) {
                return false;
            }
            known.put(came.slot, came.command);
            return true;
        }

        private void onFetch(Message came) {
            if (present.slot > came.slot) {
                net.put(new Message(STATE, id, came.from, 0, null, present));
            }
        }

        private void goOn() {
            for (int s = present.slot + 1; s <= SLOTS && known.has(s); s++) {
                execute(known.at(s));
            }
            int last = present.slot + WINDOW;
            for (int s = present.slot + 1; s <= last; s++) {
                int command = commandDueFor(s);
                if (command != NO_COMMAND) {
                    propose(s, command);
                }
            }
        }

        private void execute(int command) {
            present = present.after(command, client.find(command));
            if (command != NOTHING && campaigns()) {
                client.hear(command, present.answerOf(command));
            }
        }

        private int commandDueFor(int s) {
            if (!campaigns() || !isOpen(s) || !isSupportedFor(s)) {
                return NO_COMMAND;
            }
            if (campaign.collected.has(s)) {
                return campaign.collected.commandOf(s);
            }
            boolean isGap = known.hasAbove(s) || campaign.collected.hasAbove(s);
            return isGap ? NOTHING : NO_COMMAND;
        }
    }
}
