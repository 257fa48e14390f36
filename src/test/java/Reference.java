import java.util.ArrayList;
import java.util.List;
import java.util.Map;
import java.util.TreeMap;
import java.util.TreeSet;

/**
 * The document again, written as near to its words as can be and without a thought for speed. A state is held as the
 * list of the commands that made it, and everything that is asked of it is found by executing that list anew.
 */
final class Reference {
    private static final class Request {
        int kind;
        int key;
        int v;
        int reply;
        int heard;
    }

    private static final class Vote {
        final int ballot;
        final int command;

        Vote(int ballot, int command) {
            this.ballot = ballot;
            this.command = command;
        }
    }

    private static final class Message {
        int kind;
        int sender;
        int receiver;
        int ballot;
        int slot;
        int command;
        Map<Integer, Vote> votes = new TreeMap<>();
        List<Integer> state = new ArrayList<>();
    }

    private static final class Campaign {
        int ballot;
        TreeSet<Integer> heard = new TreeSet<>();
        Map<Integer, Vote> collected = new TreeMap<>();
        Map<Integer, Integer> proposed = new TreeMap<>();
        Map<Integer, TreeSet<Integer>> voted = new TreeMap<>();
    }

    private static final class Replica {
        int id;
        boolean up = true;
        int promised;
        TreeMap<Integer, Vote> votes = new TreeMap<>();
        List<Integer> snapshot = new ArrayList<>();
        TreeMap<Integer, Integer> known = new TreeMap<>();
        List<Integer> present = new ArrayList<>();
        Campaign campaign;

        int floor() {
            return snapshot.size();
        }

        int executed() {
            return present.size();
        }

        boolean campaigns() {
            return campaign != null && campaign.ballot == promised;
        }
    }

    private static final class Outcome {
        int[] values = new int[4];
        Map<Integer, Integer> answers = new TreeMap<>();
        List<Integer> memberships = new ArrayList<>(List.of(7));

        int membershipAfter(int k) {
            return k <= 0 ? 7 : memberships.get(k);
        }
    }

    private final List<Request> requests = new ArrayList<>();
    private final List<Message> net = new ArrayList<>();
    private final List<Replica> replicas = new ArrayList<>();

    /** How often a sentence was reached that calls alone don't lead to. */
    int votesForNoProposal;
    int otherCommandsLearnt;

    Reference() {
        for (int r = 0; r < 5; r++) {
            Replica replica = new Replica();
            replica.id = r;
            replicas.add(replica);
        }
    }

    private Outcome outcome(List<Integer> commands) {
        Outcome o = new Outcome();
        for (int c : commands) {
            int members = o.memberships.get(o.memberships.size() - 1);
            int after = members;
            if (c != 0 && !o.answers.containsKey(c)) {
                Request q = requests.get(c - 1);
                if (q.kind == 0) {
                    o.answers.put(c, o.values[q.key]);
                } else if (q.kind == 1) {
                    o.answers.put(c, o.values[q.key]);
                    o.values[q.key] = q.v;
                } else if (q.kind == 2) {
                    o.values[q.key] += q.v;
                    o.answers.put(c, o.values[q.key]);
                } else if (q.kind == 3) {
                    o.answers.put(c, o.values[q.key]);
                    if (o.values[q.key] == 0) {
                        o.values[q.key] = q.v;
                    }
                } else {
                    o.answers.put(c, members);
                    after = q.v;
                }
            }
            o.memberships.add(after);
        }
        return o;
    }

    private TreeSet<Integer> membersOf(Replica x, int s) {
        int bits = outcome(x.present).membershipAfter(s - 3);
        TreeSet<Integer> members = new TreeSet<>();
        for (int r = 0; r < 5; r++) {
            if ((bits & (1 << r)) != 0) {
                members.add(r);
            }
        }
        return members;
    }

    private static boolean majority(TreeSet<Integer> set, TreeSet<Integer> members) {
        TreeSet<Integer> both = new TreeSet<>(members);
        both.retainAll(set);
        return both.size() > members.size() / 2.0;
    }

    private boolean noReplica(int r) {
        return r < 0 || r > 4;
    }

    private boolean noRequest(int q) {
        return q < 1 || q > requests.size();
    }

    private boolean noMessage(int i) {
        return i < 0 || i >= net.size();
    }

    private void hears(int q, List<Integer> state) {
        Request request = requests.get(q - 1);
        request.reply = outcome(state).answers.get(q);
        request.heard++;
    }

    private Message make(int kind, int sender, int receiver) {
        Message m = new Message();
        m.kind = kind;
        m.sender = sender;
        m.receiver = receiver;
        return m;
    }

    private void post(Message m) {
        if (net.size() < 32) {
            net.add(m);
        }
    }

    int ask(int kind, int key, int v) {
        if (kind < 0 || kind > 4 || key < 0 || key > 3 || requests.size() == 40) {
            return -1;
        }
        if (kind == 4 && !List.of(3, 5, 6, 7, 9, 10, 11, 12, 13, 14, 15, 17, 18, 19, 20, 21, 22, 23, 24, 25, 26, 27,
                28, 29, 30, 31).contains(v)) {
            return -1;
        }
        Request q = new Request();
        q.kind = kind;
        q.key = key;
        q.v = v;
        requests.add(q);
        return requests.size();
    }

    int send(int q, int r) {
        if (noRequest(q) || noReplica(r)) {
            return -1;
        }
        Replica x = replicas.get(r);
        if (!x.up) {
            return 0;
        }
        if (outcome(x.present).answers.containsKey(q)) {
            hears(q, x.present);
            return 1;
        }
        if (!x.campaigns()) {
            return 0;
        }
        int e = x.executed();
        for (int s = e + 1; s <= 24; s++) {
            boolean isKnown = x.known.containsKey(s) && x.known.get(s) == q;
            boolean isProposed = x.campaign.proposed.containsKey(s) && x.campaign.proposed.get(s) == q;
            if (isKnown || isProposed) {
                return 3;
            }
        }
        int s = e + 1;
        while (x.known.containsKey(s) || x.campaign.proposed.containsKey(s)) {
            s++;
        }
        if (s > e + 3 || s > 24 || !majority(x.campaign.heard, membersOf(x, s))) {
            return 4;
        }
        propose(x, s, q);
        return 2;
    }

    private void propose(Replica x, int s, int c) {
        TreeSet<Integer> voted = new TreeSet<>();
        x.campaign.proposed.put(s, c);
        x.campaign.voted.put(s, voted);
        TreeSet<Integer> members = membersOf(x, s);
        if (members.contains(x.id)) {
            x.votes.put(s, new Vote(x.campaign.ballot, c));
            voted.add(x.id);
        }
        for (int to : members) {
            if (to != x.id) {
                accept(x, to, s, c);
            }
        }
    }

    private void accept(Replica x, int to, int s, int c) {
        Message m = make(3, x.id, to);
        m.ballot = x.campaign.ballot;
        m.slot = s;
        m.command = c;
        post(m);
    }

    int timer(int r) {
        if (noReplica(r) || !replicas.get(r).up) {
            return -1;
        }
        Replica x = replicas.get(r);
        int before = net.size();
        int e = x.executed();
        TreeSet<Integer> helpers = new TreeSet<>();
        for (int s = e + 1; s <= e + 3; s++) {
            helpers.addAll(membersOf(x, s));
        }
        helpers.remove(r);
        if (!x.campaigns()) {
            int n = 1;
            while (5 * n + r <= x.promised) {
                n++;
            }
            x.promised = 5 * n + r;
            x.campaign = new Campaign();
            x.campaign.ballot = x.promised;
            x.campaign.heard.add(r);
            x.campaign.collected.putAll(x.votes);
            prepare(x, helpers);
        } else {
            helpers.removeAll(x.campaign.heard);
            prepare(x, helpers);
            for (int s = e + 1; s <= e + 3; s++) {
                if (x.campaign.proposed.containsKey(s) && !x.known.containsKey(s)) {
                    for (int to : membersOf(x, s)) {
                        if (to != r && !x.campaign.voted.get(s).contains(to)) {
                            accept(x, to, s, x.campaign.proposed.get(s));
                        }
                    }
                }
            }
        }
        return net.size() - before;
    }

    private void prepare(Replica x, TreeSet<Integer> helpers) {
        for (int to : helpers) {
            Message m = make(1, x.id, to);
            m.ballot = x.campaign.ballot;
            post(m);
        }
    }

    int deliver(int i) {
        if (noMessage(i)) {
            return -1;
        }
        Message m = net.remove(i);
        Replica x = replicas.get(m.receiver);
        if (!x.up) {
            return -2;
        }
        int before = net.size();
        if (m.kind == 1) {
            receivePrepare(x, m);
        } else if (m.kind == 2) {
            receivePromise(x, m);
        } else if (m.kind == 3) {
            receiveAccept(x, m);
        } else if (m.kind == 4) {
            receiveVoted(x, m);
        } else if (m.kind == 5) {
            receiveLearn(x, m);
        } else if (m.kind == 6) {
            if (m.ballot > x.promised) {
                x.promised = m.ballot;
            }
        } else if (m.kind == 7) {
            if (x.executed() > m.slot) {
                state(x, m.sender, x.present);
            }
        } else {
            install(x, m.state);
            goOn(x);
        }
        return net.size() - before;
    }

    private void refuse(Replica x, int to) {
        Message m = make(6, x.id, to);
        m.ballot = x.promised;
        post(m);
    }

    private void state(Replica x, int to, List<Integer> carried) {
        Message m = make(8, x.id, to);
        m.state.addAll(carried);
        m.slot = carried.size();
        post(m);
    }

    private void receivePrepare(Replica x, Message m) {
        if (m.ballot < x.promised) {
            refuse(x, m.sender);
            return;
        }
        x.promised = m.ballot;
        Message p = make(2, x.id, m.sender);
        p.ballot = m.ballot;
        p.votes.putAll(x.votes);
        p.state.addAll(x.snapshot);
        post(p);
    }

    private void receivePromise(Replica x, Message m) {
        if (!x.campaigns() || m.ballot != x.campaign.ballot) {
            return;
        }
        install(x, m.state);
        x.campaign.heard.add(m.sender);
        for (Map.Entry<Integer, Vote> came : m.votes.entrySet()) {
            Vote there = x.campaign.collected.get(came.getKey());
            if (there == null || there.ballot < came.getValue().ballot) {
                x.campaign.collected.put(came.getKey(), came.getValue());
            }
        }
        goOn(x);
    }

    private void receiveAccept(Replica x, Message m) {
        if (m.ballot < x.promised) {
            refuse(x, m.sender);
            return;
        }
        x.promised = m.ballot;
        if (m.slot <= x.floor()) {
            state(x, m.sender, x.snapshot);
            return;
        }
        x.votes.put(m.slot, new Vote(m.ballot, m.command));
        Message v = make(4, x.id, m.sender);
        v.ballot = m.ballot;
        v.slot = m.slot;
        post(v);
    }

    private void receiveVoted(Replica x, Message m) {
        if (!x.campaigns() || m.ballot != x.campaign.ballot || m.slot <= x.executed() || x.known.containsKey(m.slot)) {
            return;
        }
        if (!x.campaign.proposed.containsKey(m.slot)) {
            votesForNoProposal++;
            return;
        }
        TreeSet<Integer> voted = x.campaign.voted.get(m.slot);
        voted.add(m.sender);
        if (majority(voted, membersOf(x, m.slot))) {
            x.known.put(m.slot, x.campaign.proposed.get(m.slot));
            for (int to = 0; to < 5; to++) {
                if (to != x.id) {
                    Message learn = make(5, x.id, to);
                    learn.slot = m.slot;
                    learn.command = x.known.get(m.slot);
                    post(learn);
                }
            }
            goOn(x);
        }
    }

    private void receiveLearn(Replica x, Message m) {
        if (m.slot <= x.executed() || x.known.containsKey(m.slot)) {
            if (x.known.getOrDefault(m.slot, m.command) != m.command) {
                otherCommandsLearnt++;
            }
            return;
        }
        x.known.put(m.slot, m.command);
        goOn(x);
    }

    private void install(Replica x, List<Integer> came) {
        int f = came.size();
        if (f <= x.executed()) {
            return;
        }
        x.snapshot = new ArrayList<>(came);
        x.present = new ArrayList<>(came);
        x.votes.headMap(f, true).clear();
        x.known.headMap(f, true).clear();
    }

    private void goOn(Replica x) {
        while (x.known.containsKey(x.executed() + 1)) {
            int c = x.known.get(x.executed() + 1);
            x.present.add(c);
            if (c != 0 && x.campaigns()) {
                hears(c, x.present);
            }
        }
        if (!x.campaigns()) {
            return;
        }
        int e = x.executed();
        for (int s = e + 1; s <= e + 3 && s <= 24; s++) {
            if (x.known.containsKey(s) || x.campaign.proposed.containsKey(s)
                    || !majority(x.campaign.heard, membersOf(x, s))) {
                continue;
            }
            if (x.campaign.collected.containsKey(s)) {
                propose(x, s, x.campaign.collected.get(s).command);
                continue;
            }
            TreeSet<Integer> above = new TreeSet<>(x.known.keySet());
            above.addAll(x.campaign.collected.keySet());
            if (above.higher(s) != null) {
                propose(x, s, 0);
            }
        }
    }

    boolean drop(int i) {
        if (noMessage(i)) {
            return false;
        }
        net.remove(i);
        return true;
    }

    boolean copy(int i) {
        if (noMessage(i) || net.size() == 32) {
            return false;
        }
        net.add(net.get(i));
        return true;
    }

    boolean crash(int r) {
        if (noReplica(r) || !replicas.get(r).up) {
            return false;
        }
        Replica x = replicas.get(r);
        x.up = false;
        x.known.clear();
        x.present = new ArrayList<>(x.snapshot);
        x.campaign = null;
        return true;
    }

    boolean restart(int r) {
        if (noReplica(r) || replicas.get(r).up) {
            return false;
        }
        replicas.get(r).up = true;
        return true;
    }

    int cut(int r) {
        if (noReplica(r) || !replicas.get(r).up) {
            return -1;
        }
        Replica x = replicas.get(r);
        x.snapshot = new ArrayList<>(x.present);
        int before = x.votes.size();
        x.votes.headMap(x.floor(), true).clear();
        x.known.headMap(x.floor(), true).clear();
        return before - x.votes.size();
    }

    boolean fetch(int r, int p) {
        if (noReplica(r) || noReplica(p) || r == p || !replicas.get(r).up || net.size() == 32) {
            return false;
        }
        Message m = make(7, r, p);
        m.slot = replicas.get(r).executed();
        post(m);
        return true;
    }

    int waiting() {
        return net.size();
    }

    int message(int i, int k) {
        if (noMessage(i) || k < 0 || k > 5) {
            return -1;
        }
        Message m = net.get(i);
        if (k == 3) {
            return List.of(1, 2, 6).contains(m.kind) ? m.ballot : m.slot;
        }
        if (k == 4) {
            return m.kind == 2 ? m.votes.size() : m.kind == 8 ? outcome(m.state).answers.size() : 0;
        }
        return new int[] {m.kind, m.sender, m.receiver, 0, 0, m.command}[k];
    }

    int look(int r, int k) {
        if (noReplica(r) || k < 0 || k > 7) {
            return -1;
        }
        Replica x = replicas.get(r);
        int heardBits = 0;
        if (x.campaigns()) {
            for (int h : x.campaign.heard) {
                heardBits += 1 << h;
            }
        }
        boolean leads = x.campaigns() && majority(x.campaign.heard, membersOf(x, x.executed() + 1));
        return new int[] {x.up ? 1 : 0, x.promised, x.floor(), x.executed(), x.campaigns() ? x.campaign.ballot : 0,
            leads ? 1 : 0, outcome(x.present).membershipAfter(x.executed() - 2), heardBits}[k];
    }

    int value(int r, int key) {
        return noReplica(r) || key < 0 || key > 3 ? 0 : outcome(replicas.get(r).present).values[key];
    }

    int vote(int r, int s) {
        if (noReplica(r) || s < 1 || s > 24) {
            return -1;
        }
        Vote vote = replicas.get(r).votes.get(s);
        return vote == null ? 0 : 64 * vote.ballot + vote.command;
    }

    int reply(int q) {
        return noRequest(q) ? 0 : requests.get(q - 1).reply;
    }

    int heard(int q) {
        return noRequest(q) ? 0 : requests.get(q - 1).heard;
    }

    /** As Inside.forge does with an object of MajorityMap. */
    boolean forge(int kind, int from, int to, int ballot, int slot, int command) {
        boolean isRoom = net.size() < 32;
        Message m = make(kind, from, to);
        m.ballot = ballot;
        m.slot = slot;
        m.command = command;
        post(m);
        return isRoom;
    }

    /** As Inside.known answers of an object of MajorityMap. */
    int known(int r, int slot) {
        return replicas.get(r).known.getOrDefault(slot, -1);
    }
}
