import java.util.ArrayList;
import java.util.Arrays;
import java.util.LinkedHashSet;
import java.util.LinkedList;
import java.util.List;
import java.util.NoSuchElementException;
import java.util.Set;
import java.util.TreeMap;
import java.util.TreeSet;

/**
 * The document written down a second time, in another way (collections, overlays and exceptions),
 * so that the two can be compared on many schedules. It is slow and keeps to no rule of LANGUAGE.md.
 */
final class PlainShelf {
    static final class Missing extends RuntimeException {
        final int r;
        final int mode;

        Missing(int r, int mode) {
            super(null, null, false, false);
            this.r = r;
            this.mode = mode;
        }
    }

    static final class Fault extends RuntimeException {
        final int code;

        Fault(int code) {
            super(null, null, false, false);
            this.code = code;
        }
    }

    static final class Write {
        final int block;
        final int[] words;
        final boolean commits;

        Write(int block, int[] words, boolean commits) {
            this.block = block;
            this.words = words;
            this.commits = commits;
        }
    }

    static final class Message {
        int from, to, kind, r, mode, at;
    }

    static final class Entry {
        int node, kind, state, value, time, fate;
        int[] args;
    }

    static final class Member {
        int id;
        boolean up = true, joined = true;
        TreeMap<Integer, int[]> cache = new TreeMap<>();
        TreeSet<Integer> log = new TreeSet<>();
        LinkedList<Write> flush = null;
        List<Entry> inLog = new ArrayList<>();
        List<Entry> inFlush = new ArrayList<>();
        int begun;
        TreeMap<Integer, Integer> holds = new TreeMap<>();
        TreeMap<Integer, Integer> asked = new TreeMap<>();
        TreeMap<Integer, Integer> back = new TreeMap<>();
        Set<Integer> pins = new TreeSet<>();
        TreeMap<Integer, Integer> list = new TreeMap<>();
        int kind;
        int[] args;
        int state, value, began, took, tries, listed;
        boolean logWait;

        int holding(int r) {
            return holds.getOrDefault(r, 0);
        }
    }

    static final class Desk {
        int[] gave = new int[4];
        TreeMap<Integer, Integer> called = new TreeMap<>();
        LinkedList<int[]> row = new LinkedList<>();
    }

    final int n;
    final int[][] disk = new int[640][16];
    final Member[] members;
    Desk[] desks = new Desk[136];
    List<Message> messages = new ArrayList<>();
    final int[][] delays = new int[4][4];
    final List<Entry> entries = new ArrayList<>();
    int time, sent, writes, lost;

    PlainShelf(int nodes) {
        n = Math.max(2, Math.min(4, nodes));
        members = new Member[n];
        for (int i = 0; i < n; i++) {
            members[i] = new Member();
            members[i].id = i;
        }
        for (int[] row : delays) {
            Arrays.fill(row, 1);
        }
        for (int r = 0; r < 136; r++) {
            desks[r] = new Desk();
        }
        disk[0][0] = 7177;
        disk[0][1] = n;
        disk[128][0] = 1;
        disk[129][0] = 2;
        disk[129][1] = 1;
    }

    // ---- the schedule

    static boolean in(int v, int low, int high) {
        return low <= v && v <= high;
    }

    int call(int node, int kind, int a, int b, int c, int d) {
        if (!in(node, 0, n - 1) || !in(kind, 0, 14)) {
            throw new IllegalArgumentException();
        }
        boolean fine = true;
        if (kind != 10 && kind != 14) {
            fine = in(a, 0, 127);
        }
        if (in(kind, 0, 4)) {
            fine &= b != 0;
        }
        if (kind == 1) {
            fine &= in(c, 1, 2);
        }
        if (kind == 3 || kind == 4) {
            fine &= in(c, 0, 127);
        }
        if (kind == 4) {
            fine &= d != 0;
        }
        if (kind == 5 || kind == 6 || kind == 11) {
            fine &= in(b, 0, 383);
        }
        if (kind == 7) {
            fine &= in(b, 0, 384);
        }
        if (kind == 8) {
            fine &= in(b, 0, 191);
        }
        if (kind == 9) {
            fine &= in(b, 0, 3);
        }
        if (!fine) {
            throw new IllegalArgumentException();
        }
        Member m = members[node];
        if (!m.up || m.state == 1) {
            throw new IllegalStateException();
        }
        m.kind = kind;
        m.args = new int[] {a, b, c, d};
        m.state = 1;
        m.value = 0;
        m.began = time;
        m.took = 0;
        m.tries = 0;
        m.listed = 0;
        m.list.clear();
        m.pins.clear();
        m.logWait = false;
        goOn(m);
        return m.state == 1 ? 0 : 1;
    }

    void delay(int from, int to, int ticks) {
        if (!in(from, 0, n - 1) || !in(to, 0, n - 1) || !in(ticks, 1, 20)) {
            throw new IllegalArgumentException();
        }
        delays[from][to] = ticks;
    }

    int tick(int k) {
        if (!in(k, 0, 100)) {
            throw new IllegalArgumentException();
        }
        int before = entries.size();
        while (k-- > 0) {
            time++;
            for (Message msg : new ArrayList<>(messages)) {
                if (msg.at <= time) {
                    messages.remove(msg);
                    comes(msg);
                }
            }
            for (Member m : members) {
                if (m.up && m.flush != null) {
                    Write w = m.flush.removeFirst();
                    disk[w.block] = w.words.clone();
                    writes++;
                    if (w.commits) {
                        m.inFlush.forEach(e -> e.fate = 2);
                    }
                    if (m.flush.isEmpty()) {
                        m.flush = null;
                        flushIsOver(m);
                    }
                }
            }
        }
        return entries.size() - before;
    }

    void crash(int node, int torn) {
        if (!in(node, 0, n - 1) || !in(torn, 0, 15)) {
            throw new IllegalArgumentException();
        }
        Member m = members[node];
        if (!m.up) {
            throw new IllegalStateException();
        }
        if (m.flush != null) {
            Write w = m.flush.getFirst();
            for (int i = 0; i < torn; i++) {
                disk[w.block][i] = w.words[i];
            }
            if (w.commits && torn >= 3) {
                m.inFlush.forEach(e -> e.fate = 2);
            }
            m.inFlush.forEach(e -> e.fate = e.fate == 1 ? 3 : e.fate);
        }
        m.inLog.forEach(e -> e.fate = 3);
        m.inLog.clear();
        m.inFlush.clear();
        for (int r = 0; r < 136; r++) {
            if (master(r) == node) {
                desks[r] = new Desk();
            }
        }
        m.up = false;
        m.cache.clear();
        m.log.clear();
        m.flush = null;
        m.begun = 0;
        m.holds.clear();
        m.asked.clear();
        m.back.clear();
        m.pins.clear();
        m.list.clear();
        m.logWait = false;
        if (m.state == 1) {
            m.state = 4;
            m.took = time - m.began;
            lost++;
        }
        messages.removeIf(x -> x.from == node || x.to == node);
    }

    int recover(int node) {
        if (!in(node, 0, n - 1)) {
            throw new IllegalArgumentException();
        }
        if (members[node].up || !members[node].joined) {
            throw new IllegalStateException();
        }
        int images = 0;
        for (Member m : members) {
            if (!m.up && m.joined) {
                images += recoverOn(disk, m.id);
                m.joined = false;
            }
        }
        layAnew();
        return images;
    }

    static int recoverOn(int[][] d, int i) {
        int head = 1 + 24 * i;
        if (d[head][2] != 1) {
            return 0;
        }
        for (int j = 0; j < d[head][1]; j++) {
            d[d[head + 1][j]] = d[head + 2 + j].clone();
        }
        d[head][2] = 0;
        return d[head][1];
    }

    void start(int node) {
        if (!in(node, 0, n - 1)) {
            throw new IllegalArgumentException();
        }
        boolean bad = members[node].up;
        for (Member m : members) {
            bad |= !m.up && m.joined;
        }
        if (bad) {
            throw new IllegalStateException();
        }
        members[node].up = true;
        members[node].joined = true;
        layAnew();
    }

    // ---- what is seen

    int result(int node, int what) {
        if (!in(node, 0, n - 1) || !in(what, 0, 4)) {
            throw new IllegalArgumentException();
        }
        Member m = members[node];
        return new int[] {m.state, m.value, m.state == 1 ? time - m.began : m.took, m.tries, m.listed}[what];
    }

    int history(int i, int what) {
        if (!in(i, 0, Math.min(400, entries.size()) - 1)) {
            throw new IndexOutOfBoundsException();
        }
        if (!in(what, 0, 9)) {
            throw new IllegalArgumentException();
        }
        Entry e = entries.get(i);
        return new int[] {e.node, e.kind, e.args[0], e.args[1], e.args[2], e.args[3],
            e.state, e.value, e.time, e.fate}[what];
    }

    int word(int block, int i) {
        if (!in(block, 0, 639) || !in(i, 0, 15)) {
            throw new IndexOutOfBoundsException();
        }
        return disk[block][i];
    }

    int cached(int node, int block, int i) {
        if (!in(node, 0, n - 1)) {
            throw new IllegalArgumentException();
        }
        word(block, i);
        if (!members[node].cache.containsKey(block)) {
            throw new NoSuchElementException();
        }
        return members[node].cache.get(block)[i];
    }

    int lock(int node, int r, int what) {
        if (!in(node, 0, n - 1) || !in(r, 0, 135) || !in(what, 0, 4)) {
            throw new IllegalArgumentException();
        }
        Member m = members[node];
        switch (what) {
            case 0: return m.holding(r);
            case 1: return m.asked.getOrDefault(r, 0);
            case 2: return m.back.getOrDefault(r, -1);
            case 3: return m.state == 1 ? m.list.getOrDefault(r, 0) : 0;
            default: return masterIsUp(r) ? desks[r].gave[node] : 0;
        }
    }

    int row(int r, int what) {
        if (!in(r, 0, 135) || what < 0) {
            throw new IllegalArgumentException();
        }
        if (what == 0) {
            return master(r);
        }
        LinkedList<int[]> row = masterIsUp(r) ? desks[r].row : new LinkedList<>();
        if (what == 1) {
            return row.size();
        }
        int i = what / 2 - 1;
        return i < row.size() ? row.get(i)[what % 2] : -1;
    }

    int message(int i, int what) {
        if (!in(i, 0, messages.size() - 1)) {
            throw new IndexOutOfBoundsException();
        }
        if (!in(what, 0, 5)) {
            throw new IllegalArgumentException();
        }
        Message x = messages.get(i);
        return new int[] {x.from, x.to, x.kind, x.r, x.mode, x.at}[what];
    }

    int node(int node, int what) {
        if (!in(node, 0, n - 1) || !in(what, 0, 6)) {
            throw new IllegalArgumentException();
        }
        Member m = members[node];
        return new int[] {m.up ? 1 : 0, m.joined ? 1 : 0, m.log.size(), m.flush == null ? 0 : m.flush.size(),
            m.begun, m.cache.size(), m.flush == null ? -1 : m.flush.getFirst().block}[what];
    }

    int about(int what) {
        switch (what) {
            case 0: return time;
            case 1: return messages.size();
            case 2: return sent;
            case 3: return writes;
            case 4: return entries.size();
            case 5: return lost;
            case 6: return n;
            case 7: {
                int used = 0;
                for (int g = 0; g < 8; g++) {
                    for (int j = 0; j < 47; j++) {
                        used += disk[128 + 64 * g][1 + j / 32] >>> j % 32 & 1;
                    }
                }
                return used;
            }
            case 8: {
                int used = 0;
                for (int k = 0; k < 128; k++) {
                    used += disk[128 + 64 * (k / 16)][0] >>> k % 16 & 1;
                }
                return used;
            }
            case 9: return look();
            default: throw new IllegalArgumentException();
        }
    }

    // ---- masters and messages

    int master(int r) {
        for (int i = 0; i < n; i++) {
            if (members[(r % n + i) % n].joined) {
                return (r % n + i) % n;
            }
        }
        return -1;
    }

    boolean masterIsUp(int r) {
        return master(r) >= 0 && members[master(r)].up;
    }

    void send(int from, int to, int kind, int r, int mode) {
        sent++;
        if (!members[to].up) {
            return;
        }
        Message x = new Message();
        x.from = from;
        x.to = to;
        x.kind = kind;
        x.r = r;
        x.mode = mode;
        x.at = time + delays[from][to];
        for (Message y : messages) {
            if (y.from == from && y.to == to && y.at > x.at) {
                x.at = y.at;
            }
        }
        messages.add(x);
    }

    void comes(Message x) {
        Member m = members[x.to];
        Desk desk = desks[x.r];
        if (x.kind == 0) {
            desk.row.addLast(new int[] {x.from, x.mode});
            serve(x.r);
        } else if (x.kind == 1) {
            m.holds.merge(x.r, x.mode, Math::max);
            m.asked.remove(x.r);
            goOn(m);
        } else if (x.kind == 3) {
            desk.gave[x.from] = x.mode;
            desk.called.remove(x.from);
            serve(x.r);
        } else if (m.holding(x.r) <= x.mode) {
            send(m.id, x.from, 3, x.r, m.holding(x.r));
        } else {
            m.back.merge(x.r, x.mode, Math::min);
            if (!m.pins.contains(x.r)) {
                goDown(m, x.r);
                goOn(m);
            }
        }
    }

    void serve(int r) {
        Desk desk = desks[r];
        while (!desk.row.isEmpty()) {
            int x = desk.row.getFirst()[0];
            int mode = desk.row.getFirst()[1];
            List<Integer> against = new ArrayList<>();
            for (int y = 0; y < n; y++) {
                if (y != x && (mode == 2 ? desk.gave[y] > 0 : desk.gave[y] == 2)) {
                    against.add(y);
                }
            }
            if (!against.isEmpty()) {
                int to = mode == 2 ? 0 : 1;
                for (int y : against) {
                    Integer was = desk.called.get(y);
                    if (was == null || was > to) {
                        desk.called.put(y, to);
                        send(master(r), y, 2, r, to);
                    }
                }
                return;
            }
            desk.gave[x] = Math.max(desk.gave[x], mode);
            send(master(r), x, 1, r, mode);
            desk.row.removeFirst();
        }
    }

    void layAnew() {
        messages.clear();
        for (int r = 0; r < 136; r++) {
            desks[r] = new Desk();
            for (Member m : members) {
                if (m.up) {
                    desks[r].gave[m.id] = m.holding(r);
                }
            }
        }
        for (Member m : members) {
            m.back.clear();
            if (m.up) {
                m.asked.forEach((r, mode) -> desks[r].row.addLast(new int[] {m.id, mode}));
            }
        }
        for (int r = 0; r < 136; r++) {
            serve(r);
        }
        for (Member m : members) {
            if (m.up) {
                goOn(m);
            }
        }
    }

    // ---- going down and flushes

    void goDown(Member m, int r) {
        if (m.holding(r) == 2 && (m.flush != null || !m.log.isEmpty())) {
            beginFlush(m);
            return;
        }
        int mode = m.back.remove(r);
        m.holds.put(r, mode);
        if (mode == 0) {
            m.holds.remove(r);
            leaveCache(m, r);
        }
        send(m.id, master(r), 3, r, mode);
    }

    void leaveCache(Member m, int r) {
        if (r >= 128) {
            m.cache.remove(128 + 64 * (r - 128));
            return;
        }
        int[] inode = m.cache.remove(at(r));
        if (inode != null) {
            for (int i = 3; i <= 10; i++) {
                m.cache.remove(inode[i]);
            }
            int[] index = m.cache.remove(inode[11]);
            if (index != null) {
                for (int b : index) {
                    m.cache.remove(b);
                }
            }
        }
    }

    void beginFlush(Member m) {
        if (m.flush != null) {
            return;
        }
        if (m.log.isEmpty()) {
            throw new AssertionError("a flush of nothing");
        }
        m.begun++;
        m.flush = new LinkedList<>();
        int head = 1 + 24 * m.id;
        int[] table = new int[16];
        int j = 0;
        List<Write> places = new ArrayList<>();
        for (int b : m.log) {
            int[] words = m.cache.get(b).clone();
            m.flush.add(new Write(head + 2 + j, words, false));
            places.add(new Write(b, words, false));
            table[j++] = b;
        }
        m.flush.add(new Write(head + 1, table, false));
        int[] valid = new int[16];
        valid[0] = m.begun;
        valid[1] = j;
        valid[2] = 1;
        m.flush.add(new Write(head, valid, true));
        m.flush.addAll(places);
        int[] over = valid.clone();
        over[2] = 0;
        m.flush.add(new Write(head, over, false));
        m.log.clear();
        m.inFlush = m.inLog;
        m.inLog = new ArrayList<>();
    }

    List<Integer> waiting(Member m) {
        List<Integer> found = new ArrayList<>(m.back.keySet());
        found.removeAll(m.pins);
        return found;
    }

    void flushIsOver(Member m) {
        boolean callWaits = m.state == 1 && m.logWait;
        if (!m.log.isEmpty() && (callWaits || !waiting(m).isEmpty())) {
            beginFlush(m);
            return;
        }
        for (int r : waiting(m)) {
            goDown(m, r);
        }
        goOn(m);
    }

    // ---- how a call goes on

    void unpin(Member m) {
        List<Integer> were = new ArrayList<>(m.pins);
        m.pins.clear();
        for (int r : were) {
            if (m.back.containsKey(r)) {
                goDown(m, r);
            }
        }
    }

    void goOn(Member m) {
        if (m.state != 1) {
            return;
        }
        if (m.logWait && m.flush != null) {
            return;
        }
        m.logWait = false;
        if (m.kind == 10 && (m.flush != null || !m.log.isEmpty())) {
            m.logWait = true;
            beginFlush(m);
            return;
        }
        for (int r : m.list.keySet()) {
            int mode = m.list.get(r);
            if (m.pins.contains(r)) {
                continue;
            }
            if (m.back.containsKey(r)) {
                return;
            }
            if (m.holding(r) >= mode) {
                m.pins.add(r);
                continue;
            }
            if (!m.asked.containsKey(r)) {
                m.asked.put(r, mode);
                send(m.id, master(r), 0, r, mode);
            }
            return;
        }
        m.tries++;
        Attempt t = new Attempt(m);
        int state = 2;
        int value;
        try {
            value = t.perform();
        } catch (Missing miss) {
            m.list.put(miss.r, miss.mode);
            m.listed = m.list.size();
            unpin(m);
            goOn(m);
            return;
        } catch (Fault fault) {
            state = 3;
            value = fault.code;
            t.mine.clear();
            t.given.clear();
        }
        TreeSet<Integer> all = new TreeSet<>(m.log);
        all.addAll(t.mine.keySet());
        all.removeAll(t.given);
        if (all.size() > 16) {
            unpin(m);
            m.logWait = true;
            beginFlush(m);
            return;
        }
        m.log = all;
        m.cache.putAll(t.mine);
        m.cache.keySet().removeAll(t.given);
        m.state = state;
        m.value = value;
        m.took = time - m.began;
        Entry e = new Entry();
        e.node = m.id;
        e.kind = m.kind;
        e.args = m.args;
        e.state = state;
        e.value = value;
        e.time = time;
        e.fate = t.mine.isEmpty() ? 0 : 1;
        entries.add(e);
        if (e.fate == 1) {
            m.inLog.add(e);
        }
        unpin(m);
    }

    static int at(int k) {
        return 129 + 64 * (k / 16) + k % 16;
    }

    /** A try: what it changes lies over the cache until it has ended. */
    final class Attempt {
        final Member m;
        final TreeMap<Integer, int[]> mine = new TreeMap<>();
        final Set<Integer> given = new LinkedHashSet<>();

        Attempt(Member m) {
            this.m = m;
        }

        void need(int r, int mode) {
            if (!m.pins.contains(r) || m.holding(r) < mode) {
                throw new Missing(r, mode);
            }
        }

        int get(int block, int i) {
            int[] words = mine.get(block);
            if (words == null) {
                words = m.cache.computeIfAbsent(block, b -> disk[b].clone());
            }
            return words[i];
        }

        void put(int block, int i, int v) {
            get(block, i);
            mine.computeIfAbsent(block, b -> m.cache.get(b).clone())[i] = v;
        }

        int perform() {
            int a = m.args[0];
            int b = m.args[1];
            int c = m.args[2];
            int d = m.args[3];
            switch (m.kind) {
                case 0: dir(a, 1); return dataWord(a, entryOf(a, b) + 1);
                case 1: return makeIt(a, b, c);
                case 2: return removeIt(a, b);
                case 3: return linkIt(a, b, c);
                case 4: return renameIt(a, b, c, d);
                case 5:
                    file(a, 1);
                    check(b < get(at(a), 2), -10);
                    return dataWord(a, b);
                case 6: file(a, 2); return store(a, b, c);
                case 7: return cutIt(a, b);
                case 8: {
                    dir(a, 1);
                    int seen = 0;
                    for (int w = 0; w < get(at(a), 2); w += 2) {
                        if (dataWord(a, w) != 0 && seen++ == b) {
                            return dataWord(a, w);
                        }
                    }
                    throw new Fault(-3);
                }
                case 9: return statIt(a, b);
                case 10: return 0;
                case 11: {
                    file(a, 2);
                    return store(a, b, dataWord(a, b) + c);
                }
                case 12: {
                    need(a, 2);
                    int size = get(at(a), 2);
                    check(size != 384, -7);
                    file(a, 2);
                    store(a, size, b);
                    return size;
                }
                case 13: {
                    dir(a, 1);
                    int seen = 0;
                    for (int w = 0; w < get(at(a), 2); w += 2) {
                        seen += dataWord(a, w) != 0 ? 1 : 0;
                    }
                    return seen;
                }
                default: {
                    int free = 0;
                    for (int g = 0; g < 8; g++) {
                        need(128 + g, 1);
                        for (int j = 0; j < 47; j++) {
                            free += 1 - (get(128 + 64 * g, 1 + j / 32) >>> j % 32 & 1);
                        }
                    }
                    return free;
                }
            }
        }

        void check(boolean fine, int fault) {
            if (!fine) {
                throw new Fault(fault);
            }
        }

        void dir(int d, int mode) {
            need(d, mode);
            check(get(at(d), 0) == 2, -2);
        }

        void file(int k, int mode) {
            need(k, mode);
            check(get(at(k), 0) == 1, -4);
        }

        int place(int k, int i) {
            if (i < 128) {
                return get(at(k), 3 + i / 16);
            }
            int index = get(at(k), 11);
            return index == 0 ? 0 : get(index, i / 16 - 8);
        }

        int dataWord(int k, int i) {
            int block = place(k, i);
            return block == 0 ? 0 : get(block, i % 16);
        }

        boolean has(int d, int name) {
            for (int w = 0; w < get(at(d), 2); w += 2) {
                if (dataWord(d, w) == name) {
                    return true;
                }
            }
            return false;
        }

        int entryOf(int d, int name) {
            for (int w = 0; w < get(at(d), 2); w += 2) {
                if (dataWord(d, w) == name) {
                    return w;
                }
            }
            throw new Fault(-3);
        }

        int takeOne(int group, int from, int many, int firstWord) {
            for (int s = 0; s < 8; s++) {
                int g = (group + s) % 8;
                need(128 + g, 2);
                int map = 128 + 64 * g;
                for (int j = 0; j < many; j++) {
                    int w = firstWord + j / 32;
                    if ((get(map, w) >>> j % 32 & 1) == 0) {
                        put(map, w, get(map, w) | 1 << j % 32);
                        mine.put(map + from + j, new int[16]);
                        return map + from + j;
                    }
                }
            }
            throw new Fault(-7);
        }

        int takeBlock(int k) {
            return takeOne(k / 16, 17, 47, 1);
        }

        void giveBack(int block) {
            int g = (block - 128) / 64;
            need(128 + g, 2);
            int j = (block - 128) % 64 - 17;
            int map = 128 + 64 * g;
            put(map, 1 + j / 32, get(map, 1 + j / 32) & ~(1 << j % 32));
            given.add(block);
        }

        int ensure(int k, int i) {
            if (place(k, i) == 0) {
                if (i >= 128 && get(at(k), 11) == 0) {
                    put(at(k), 11, takeBlock(k));
                }
                int block = takeBlock(k);
                if (i < 128) {
                    put(at(k), 3 + i / 16, block);
                } else {
                    put(get(at(k), 11), i / 16 - 8, block);
                }
            }
            return place(k, i);
        }

        int store(int k, int i, int v) {
            put(ensure(k, i), i % 16, v);
            if (i + 1 > get(at(k), 2)) {
                put(at(k), 2, i + 1);
            }
            return v;
        }

        void putEntry(int d, int name, int k) {
            int size = get(at(d), 2);
            int w = 0;
            while (w < size && dataWord(d, w) != 0) {
                w += 2;
            }
            check(w < 384, -7);
            int block = ensure(d, w);
            put(block, w % 16, name);
            put(block, w % 16 + 1, k);
            if (w == size) {
                put(at(d), 2, size + 2);
            }
        }

        int makeIt(int d, int name, int kind) {
            dir(d, 2);
            check(!has(d, name), -6);
            // The map's bit is set and the block is new, but its lock comes only then.
            int block = takeOne(d / 16, 1, 16, 0);
            int k = (block - 128) / 64 * 16 + (block - 128) % 64 - 1;
            need(k, 2);
            put(block, 0, kind);
            put(block, 1, 1);
            putEntry(d, name, k);
            return k;
        }

        int removeIt(int d, int name) {
            dir(d, 2);
            int w = entryOf(d, name);
            int t = dataWord(d, w + 1);
            need(t, 2);
            if (get(at(t), 0) == 2) {
                for (int i = 0; i < get(at(t), 2); i += 2) {
                    check(dataWord(t, i) == 0, -8);
                }
            }
            put(place(d, w), w % 16, 0);
            put(place(d, w), w % 16 + 1, 0);
            put(at(t), 1, get(at(t), 1) - 1);
            if (get(at(t), 1) == 0) {
                for (int i = 0; i < 384; i += 16) {
                    if (place(t, i) != 0) {
                        giveBack(place(t, i));
                    }
                }
                if (get(at(t), 11) != 0) {
                    giveBack(get(at(t), 11));
                }
                need(128 + t / 16, 2);
                int map = 128 + 64 * (t / 16);
                put(map, 0, get(map, 0) & ~(1 << t % 16));
                for (int i = 0; i < 16; i++) {
                    put(at(t), i, 0);
                }
            }
            return 0;
        }

        int linkIt(int d, int name, int k) {
            dir(d, 2);
            check(!has(d, name), -6);
            file(k, 2);
            int links = get(at(k), 1) + 1;
            put(at(k), 1, links);
            putEntry(d, name, k);
            return links;
        }

        int renameIt(int d, int name, int e, int other) {
            dir(d, 2);
            dir(e, 2);
            int w = entryOf(d, name);
            int t = dataWord(d, w + 1);
            if (d != e) {
                need(t, 1);
                check(get(at(t), 0) != 2, -9);
            }
            if (d == e && name == other) {
                return 0;
            }
            check(!has(e, other), -6);
            put(place(d, w), w % 16, 0);
            put(place(d, w), w % 16 + 1, 0);
            putEntry(e, other, t);
            return 0;
        }

        int cutIt(int k, int size) {
            file(k, 2);
            int had = get(at(k), 2);
            for (int q = 0; q < 24; q++) {
                if (16 * q < size) {
                    continue;
                }
                int block = place(k, 16 * q);
                if (block == 0) {
                    continue;
                }
                giveBack(block);
                if (q < 8) {
                    put(at(k), 3 + q, 0);
                } else if (size > 128) {
                    put(get(at(k), 11), q - 8, 0);
                }
            }
            if (size <= 128 && get(at(k), 11) != 0) {
                giveBack(get(at(k), 11));
                put(at(k), 11, 0);
            }
            put(at(k), 2, size);
            if (size % 16 != 0) {
                int block = place(k, size);
                for (int i = size % 16; i < 16 && block != 0; i++) {
                    put(block, i, 0);
                }
            }
            return had;
        }

        int statIt(int k, int what) {
            need(k, 1);
            check(get(at(k), 0) != 0, -5);
            if (what < 3) {
                return get(at(k), what);
            }
            int blocks = get(at(k), 11) != 0 ? 1 : 0;
            for (int q = 0; q < 24; q++) {
                blocks += place(k, 16 * q) != 0 ? 1 : 0;
            }
            return blocks;
        }
    }

    // ---- the whole

    int look() {
        int[][] d = new int[640][];
        for (int b = 0; b < 640; b++) {
            d[b] = disk[b].clone();
        }
        for (Member m : members) {
            if (m.joined) {
                recoverOn(d, m.id);
            }
        }
        int[] named = new int[128];
        Set<Integer> reached = new LinkedHashSet<>();
        LinkedList<Integer> todo = new LinkedList<>(List.of(0));
        reached.add(0);
        boolean one = false;
        while (!todo.isEmpty()) {
            int[] inode = d[at(todo.removeFirst())];
            for (int w = 0; inode[0] == 2 && w < inode[2]; w += 2) {
                int block = w < 128 ? inode[3 + w / 16] : inode[11] == 0 ? 0 : d[inode[11]][w / 16 - 8];
                if (block == 0 || d[block][w % 16] == 0) {
                    continue;
                }
                int k = d[block][w % 16 + 1];
                if (!in(k, 0, 127) || d[at(k)][0] == 0) {
                    one = true;
                    continue;
                }
                named[k]++;
                if (reached.add(k)) {
                    todo.add(k);
                }
            }
        }
        if (one) {
            return 1;
        }
        boolean two = named[0] > 0;
        boolean three = false;
        boolean four = d[at(0)][1] != 1;
        boolean five = false;
        int[][] maps = new int[8][16];
        Set<Integer> owned = new TreeSet<>();
        for (int k = 0; k < 128; k++) {
            int[] inode = d[at(k)];
            two |= inode[0] == 2 && named[k] > 1;
            three |= inode[0] != 0 && !reached.contains(k);
            four |= k > 0 && inode[1] != named[k];
            if (inode[0] != 0) {
                maps[k / 16][0] |= 1 << k % 16;
                List<Integer> has = new ArrayList<>();
                for (int i = 3; i <= 11; i++) {
                    has.add(inode[i]);
                }
                if (inode[11] != 0) {
                    for (int b : d[inode[11]]) {
                        has.add(b);
                    }
                }
                for (int b : has) {
                    if (b != 0) {
                        five |= b < 128 || b >= 640 || (b - 128) % 64 < 17 || !owned.add(b);
                        int j = (b - 128) % 64 - 17;
                        maps[(b - 128) / 64][1 + j / 32] |= 1 << j % 32;
                    }
                }
            }
        }
        boolean six = false;
        for (int g = 0; g < 8; g++) {
            six |= !Arrays.equals(maps[g], d[128 + 64 * g]);
        }
        return two ? 2 : three ? 3 : four ? 4 : five ? 5 : six ? 6 : 0;
    }
}
