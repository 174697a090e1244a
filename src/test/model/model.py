# A naive model of the internetwork, written from ../shared/DOC.md without a look at the Java class;
# mixed.py and crowded.py make runs of calls with it, whose answers stand in ../runs.
NONE=-1; OVER=-2; SPARE=12
class IA(Exception): pass
class IS(Exception): pass
def i32(x):
    x&=0xffffffff
    return x-(1<<32) if x>>31 else x
OPEN,LAST,RESET,THANKS=1,2,4,8
FREE,LISTENING,ASKING,ANSWERING,ON,LEAVING,LEFT,ALONE,PARTING,ENDING,QUIET,ABORTED=range(12)
def before(x,y): return i32(y-x)>0
def cdiv(a,b): # cut
    q=abs(a)//abs(b); return q if (a>=0)==(b>=0) else -q

class Dg:
    def __init__(s,src,goal,kind,num,lives,content,size):
        s.src,s.goal,s.kind,s.num,s.lives,s.content=src,goal,kind,num,lives,content
        s.total=size; s.off=0; s.len=size; s.cameport=None
    def copy(s):
        d=Dg(s.src,s.goal,s.kind,s.num,s.lives,s.content,s.total); d.off=s.off; d.len=s.len; d.cameport=s.cameport; return d
    def whole(s): return s.off==0 and s.len==s.total
class Seg:
    def __init__(s,sp,dp,flags,num,thanked,window,largest,data,mk):
        s.sp,s.dp,s.flags,s.num,s.thanked,s.window,s.largest,s.data,s.mk=sp,dp,flags,num,thanked,window,largest,data,mk
    def size(s): return (1 if s.flags&OPEN else 0)+len(s.data)+(1 if s.flags&LAST else 0)
class Net:
    def __init__(s,i,largest,delay):
        s.i=i; s.largest=largest; s.delay=delay; s.up=True; s.fates=[]; s.st=[]; s.put=0; s.arr=0
class Port:
    def __init__(s,box,net,k):
        s.box=box; s.net=net; s.k=k; s.st=len(net.st); s.cost=10
        s.addr=10*2**24+net.i*2**16+s.st+1
        s.heard={}   # station->tick
        s.ask=[]     # [station, first]
        s.wait=[]    # (station,dg)
class Box:
    def __init__(s,i,router):
        s.i=i; s.router=router; s.ports=[]; s.c=[0]*8; s.parts=[]
        if router:
            s.hear={}  # (portk,router)->[last,friend]
            s.base={}  # router->[number, came, entries]
            s.due={}   # (portk,router friend, of)-> tick to send
            s.thanks=[]; s.made=None; s.lastadv=None; s.great=0; s.ways={}
        else:
            s.doors=[Door() for _ in range(6)]; s.opened=0
class Door:
    def __init__(s):
        s.kind='free'; s.drainv=1; s.drain=False; s.end=None; s.port=0; s.pport=0; s.paddr=0; s.through=None; s.came=False; s.told=False
class End: pass

class Model:
    def __init__(s):
        s.nets=[]; s.boxes=[]; s.t=0; s.fly=[]; s.seq=0; s.calm=0; s.stray=0
    def stir(s): s.calm=s.t
    # ---- public
    def box(s,r):
        if len(s.boxes)>=16: raise IS
        s.boxes.append(Box(len(s.boxes),r)); s.stir(); return len(s.boxes)-1
    def net(s,l,d):
        if not(100<=l<=1500) or not(1<=d<=50): raise IA
        if len(s.nets)>=24: raise IS
        s.nets.append(Net(len(s.nets),l,d)); s.stir(); return len(s.nets)-1
    def B(s,b):
        if not(0<=b<len(s.boxes)): raise IA
        return s.boxes[b]
    def N(s,n):
        if not(0<=n<len(s.nets)): raise IA
        return s.nets[n]
    def R(s,b):
        x=s.B(b)
        if not x.router: raise IA
        return x
    def H(s,b):
        x=s.B(b)
        if x.router: raise IA
        return x
    def D(s,h,d):
        x=s.H(h)
        if not 0<=d<6: raise IA
        return x.doors[d]
    def join(s,b,n):
        x=s.B(b); y=s.N(n)
        if len(x.ports)>=(6 if x.router else 1) or any(p.net is y for p in x.ports) or len(y.st)>=8: raise IS
        p=Port(x,y,len(x.ports)); x.ports.append(p); y.st.append(p); s.stir(); return p.addr
    def cost(s,r,n,c):
        x=s.R(r); y=s.N(n); p=[p for p in x.ports if p.net is y]
        if not p or not 1<=c<=1000: raise IA
        o=p[0].cost
        if o!=c: s.stir()
        p[0].cost=c; return o
    def link(s,n,up):
        y=s.N(n)
        if y.up==up: return 0
        y.up=up; s.stir()
        if not up: s.fly=[f for f in s.fly if f['net'] is not y]
        return 1
    def fates(s,n,f,k):
        y=s.N(n)
        if not 1<=k<=32: raise IA
        if len(y.fates)+k>64: raise IS
        for i in range(k): y.fates.append((f>>(2*i))&3)
        return len(y.fates)
    def run(s,k):
        if not 1<=k<=1000: raise IA
        if s.t+k>400000: raise IS
        for _ in range(k): s.tick()
        return s.t
    def listen(s,h,port,bl):
        x=s.H(h)
        if not 1<=port<=49999 or not 1<=bl<=5: raise IA
        fr=[i for i in range(6) if x.doors[i].kind=='free']
        if not fr: raise IS
        if any(d.kind=='listen' and d.port==port for d in x.doors): raise IS
        d=x.doors[fr[0]]; d.kind='listen'; d.port=port; d.bl=bl; d.pport=d.paddr=0; s.stir(); return fr[0]
    def open(s,h,a,port):
        x=s.H(h)
        if not 1<=port<=65535: raise IA
        if x.ports and x.ports[0].addr==a: raise IA
        fr=[i for i in range(6) if x.doors[i].kind=='free']
        if not fr or not x.ports or 50000+x.opened>65535: raise IS
        d=x.doors[fr[0]]; s.giveend(x,d,50000+x.opened,a,port); x.opened+=1
        e=d.end; e.state=ASKING; e.listened=False; e.next=i32(e.first+1); e.opendue=True; s.stir(); return fr[0]
    def giveend(s,x,d,port,pa,pp):
        d.kind='end'; d.port=port; d.paddr=pa; d.pport=pp; d.drain=False; d.drainv=1; d.came=False; d.told=False; d.through=None
        e=End(); d.end=e; e.own=x.ports[0].net.largest-40; e.resetdue=None
        s.endbegin(e,i32(64000*s.t+977*x.i))
    def endbegin(s,e,first):
        e.first=first; e.state=LISTENING; e.listened=True; e.oldest=e.next=first; e.out=[]; e.inn=[]; e.came={}; e.closed=False; e.lastsent=False; e.lastthanked=False
        e.win=0; e.wn=0; e.wt=0; e.exp=0; e.piece=e.own; e.plast=None; e.over=False
        e.opendue=e.again=e.probe=e.th=False; e.opensent=False
        e.alarm=None; e.tries=0; e.wait=60; e.sm=None; e.sp=0; e.meas=None; e.quiet=0
        e.log=[]; e.peer=None; e.nread=0
    def accept(s,h,d):
        x=s.D(h,d)
        if x.kind!='listen': raise IS
        for i,y in enumerate(s.boxes[h].doors):
            if y.kind=='end' and y.through is x and not y.told and ON<=y.end.state<=QUIET:
                y.told=True; return i
        return NONE
    def canwrite(s,d): return d.kind=='end' and not d.end.closed and d.end.state not in(FREE,LISTENING,ABORTED)
    def put(s,d,bs):
        if not s.canwrite(d): raise IS
        bs=bs[:2048-len(d.end.out)]; d.end.out+=bs; d.end.log+=bs; s.stir(); s.armprobe(d.end); return len(bs)
    def write(s,h,d,b,n):
        x=s.D(h,d)
        if not 1<=n<=8: raise IA
        return s.put(x,[(b>>(8*(n-1-i)))&255 for i in range(n)])
    def fill(s,h,d,seed,step,n):
        x=s.D(h,d)
        if not 1<=n<=2048: raise IA
        return s.put(x,[(seed+i*step)&255 for i in range(n)])
    def canread(s,x):
        if x.kind!='end': raise IS
        e=x.end
        if not e.inn and not e.over and e.state in(FREE,LISTENING,ABORTED): raise IS
    def rd(s,x):
        e=x.end; m=min(e.piece,1024); small=2048-len(e.inn)<m
        v=e.inn.pop(0)
        if small and 2048-len(e.inn)>=m and e.state in(ON,LEAVING,LEFT): e.th=True
        if not(e.peer and e.nread<len(e.peer.log) and e.peer.log[e.nread]==v): s.stray+=1
        e.nread+=1
        return v
    def read(s,h,d):
        x=s.D(h,d); s.canread(x)
        if x.end.inn: return s.rd(x)
        return OVER if x.end.over else NONE
    def readAll(s,h,d,n):
        x=s.D(h,d)
        if not 1<=n<=2048: raise IA
        s.canread(x); v=1
        while n>0 and x.end.inn: v=i32(31*v+s.rd(x)); n-=1
        return v
    def close(s,h,d):
        x=s.D(h,d)
        if x.kind=='free': raise IS
        if x.kind=='listen':
            for y in s.boxes[h].doors:
                if y.kind=='end' and y.through is x:
                    y.through=None
                    if not y.told and y.end.state not in(FREE,ABORTED): s.doabort(y.end)
            s.freedoor(x); s.stir(); return 0
        e=x.end
        if e.state in(FREE,ABORTED): s.freedoor(x); s.stir(); return 0
        if e.closed: raise IS
        e.closed=True
        if e.state in(LISTENING,ASKING): s.stop(e,FREE)
        elif e.state==ON: e.state=LEAVING
        elif e.state==ALONE: e.state=ENDING
        s.armprobe(e); s.stir(); return 0
    def freedoor(s,x): x.kind='free'; x.port=x.pport=x.paddr=0; x.end=None; x.through=None
    def doabort(s,e):
        if e.state not in(LISTENING,ASKING,QUIET): e.resetdue=(RESET|THANKS,e.next,e.exp)
        s.stop(e,ABORTED)
    def stop(s,e,st):
        e.state=st; e.opendue=e.again=e.probe=False
        if st!=QUIET: e.th=False
        else: e.quiet=s.t+2000
        e.alarm=None
    def abort(s,h,d):
        x=s.D(h,d)
        if x.kind!='end' or x.end.state in(FREE,ABORTED): raise IS
        s.doabort(x.end); s.stir(); return 0
    def door(s,h,d,w):
        x=s.D(h,d)
        if not 0<=w<=6: raise IA
        if w==0: return {'free':SPARE,'listen':1}.get(x.kind) or x.end.state if x.kind!='end' else x.end.state
        if w==1: return x.port if x.kind!='free' else 0
        if w==2: return x.pport if x.kind=='end' else 0
        if w==3: return x.paddr if x.kind=='end' else 0
        if w==4: return len(x.end.inn) if x.kind=='end' else 0
        if w==5: return 2048-len(x.end.out) if s.canwrite(x) else 0
        return len(x.end.out) if x.kind=='end' else 0
    def way(s,r,n,w):
        x=s.R(r); s.N(n)
        if not 0<=w<=2: raise IA
        y=x.ways.get(n); return y[w] if y else NONE
    def friends(s,r,o,n):
        x=s.R(r); s.R(o); y=s.N(n)
        for p in x.ports:
            if p.net is y and (p.k,o) in x.hear and x.hear[(p.k,o)][1]: return 1
        return 0
    def advert(s,r,o):
        x=s.R(r); s.R(o); return x.base[o][0] if o in x.base else NONE
    def count(s,i,w):
        if not 0<=w<=7: raise IA
        if w<2: y=s.N(i); return y.put if w==0 else y.arr
        return s.B(i).c[w]
    def underWay(s): return len(s.fly)
    def time(s): return s.t
    def shouldCost(s,r,n):
        x=s.R(r); y=s.N(n)
        if not y.up: return NONE
        for p in x.ports:
            if p.net is y: return p.cost
        dist={x:0}; ch=True
        while ch:
            ch=False
            for b in list(dist):
                for p in b.ports:
                    if p.net.up:
                        for q in p.net.st:
                            if q.box.router and dist.get(q.box,10**9)>dist[b]+p.cost: dist[q.box]=dist[b]+p.cost; ch=True
        c=[dist[p.box]+p.cost for p in y.st if p.box in dist]
        return min(c) if c else NONE
    def bound(s):
        n=len(s.boxes); d=max([1]+[y.delay for y in s.nets])
        return 100+4*d+2*(11+n*(17+3*d))+40*(1200+6*(n+2)*d)
    def drain(s,h,d,on):
        x=s.D(h,d)
        if x.kind!='end': raise IS
        x.drain=on; return 0
    def drained(s,h,d): return s.D(h,d).drainv
    def strays(s): return s.stray
    def overdue(s):
        if s.t-s.calm<s.bound(): return 0
        k=0
        for b in s.boxes:
            if b.router:
                for y in s.nets:
                    if s.way(b.i,y.i,0)!=s.shouldCost(b.i,y.i): k+=1
            else:
                for x in b.doors:
                    if x.kind=='end' and ON<=x.end.state<=QUIET and x.end.out:
                        p=s.portat(x.paddr)
                        if p and not p.box.router and b.ports[0].net.up:
                            seen={b.ports[0].net}; ch=True
                            while ch:
                                ch=False
                                for r in s.boxes:
                                    if r.router:
                                        m=[q.net for q in r.ports if q.net.up]
                                        if any(z in seen for z in m) and not all(z in seen for z in m): seen|=set(m); ch=True
                            if p.net in seen: k+=1
        return k
    def portat(s,a):
        a&=0xffffffff
        if a>>24!=10: return None
        n=(a>>16)&255; l=a&65535
        if n>=len(s.nets) or not 1<=l<=len(s.nets[n].st): return None
        return s.nets[n].st[l-1]
    # ---- frames
    def frame(s,port,to,what,x):
        y=port.net; y.put+=1
        if not y.up: return
        f=y.fates.pop(0) if y.fates else 0
        if f: s.stir()
        if f==1: return
        need=2 if f==2 else 1
        if len(s.fly)+need>512: s.stir(); return
        s.seq+=1
        for due in ([y.delay] if f==0 else [y.delay,3*y.delay] if f==2 else [4*y.delay]):
            s.fly.append(dict(net=y,frm=port.st,to=to,what=what,x=x.copy() if what=='dg' else x,due=s.t+due,seq=s.seq))
    def putdg(s,port,to,dg):
        L=port.net.largest
        if dg.len+20<=L: s.frame(port,to,'dg',dg); return
        m=(L-20)//8*8; o=0
        while o<dg.len:
            d=dg.copy(); d.off=dg.off+o; d.len=min(m,dg.len-o); port.box.c[5]+=1
            s.frame(port,to,'dg',d); o+=m
    def give(s,port,st,dg):
        if st in port.heard and s.t-port.heard[st]<=2500: s.putdg(port,st,dg); return
        none=not any(w[0]==st for w in port.wait)
        port.wait.append((st,dg.copy()))
        if none:
            port.ask.append([st,s.t]); s.frame(port,None,'ask',st)
        if len(port.wait)>16:
            o=port.wait.pop(0); s.stir()
            if not any(w[0]==o[0] for w in port.wait): port.ask=[a for a in port.ask if a[0]!=o[0]]
    def tick(s):
        s.t+=1
        now=sorted([f for f in s.fly if f['due']==s.t],key=lambda f:f['seq'])
        for f in now:
            s.fly.remove(f)
            for p in list(f['net'].st):
                if (f['to'] is None and p.st!=f['frm']) or f['to']==p.st: s.arrive(p,f)
        for b in s.boxes:
            for p in b.ports:
                for a in list(p.ask):
                    if a not in p.ask: continue
                    if s.t-a[1] in(20,40): s.frame(p,None,'ask',a[0])
                    if s.t-a[1]>=200:
                        w=[z for z in p.wait if z[0]==a[0]]; p.wait=[z for z in p.wait if z[0]!=a[0]]; p.ask.remove(a)
                        for z in w: s.comeback(b,z[1])
            k=len(b.parts); b.parts=[q for q in b.parts if s.t-q['t']<300]
            if len(b.parts)!=k: s.stir()
            if b.router: s.rturn(b)
            else: s.hturn(b)
    def arrive(s,p,f):
        p.net.arr+=1; st=f['frm']; p.heard[st]=s.t
        if any(a[0]==st for a in p.ask):
            w=[z for z in p.wait if z[0]==st]; p.wait=[z for z in p.wait if z[0]!=st]; p.ask=[a for a in p.ask if a[0]!=st]
            for z in w: s.putdg(p,st,z[1])
        if f['what']=='ask':
            if f['x']==p.st: s.frame(p,st,'answer',None)
            return
        if f['what']=='answer': return
        d=f['x'].copy(); b=p.box
        if d.goal==0 or any(q.addr==d.goal for q in b.ports):
            if not d.whole():
                d=s.piece(b,d)
                if d is None: return
            b.c[3]+=1; s.got(b,p,d)
        elif b.router and f['to'] is not None and d.kind in('stream','error'):
            d.cameport=p; d.lives-=1
            if d.lives<=0: s.comeback(b,d); return
            r=s.route(b,d.goal)
            if r is None: s.comeback(b,d)
            else: b.c[4]+=1; s.give(r[0],r[1],d)
    def piece(s,b,d):
        key=(d.src,d.goal,d.kind,d.num); q=None
        for z in b.parts:
            if z['key']==key: q=z
        if q is None:
            if len(b.parts)>=4: b.parts.pop(0); s.stir()
            q=dict(key=key,t=s.t,have=set(),d=d); b.parts.append(q)
        q['have']|=set(range(d.off,d.off+d.len))
        if len(q['have'])<d.total: return None
        b.parts.remove(q); b.c[6]+=1
        w=d.copy(); w.off=0; w.len=w.total; return w
    def route(s,b,goal):
        if b.router:
            g=goal&0xffffffff; n=(g>>16)&255; l=g&65535
            if g>>24!=10 or n>=len(s.nets) or not 1<=l<=8: return None
            w=b.ways.get(n)
            if not w: return None
            p=[p for p in b.ports if p.net.i==w[2]][0]
            if w[1]==b.i: return p,l-1
            q=[q for q in p.net.st if q.box.i==w[1]][0]
            return p,q.st
        p=b.ports[0]; g=goal&0xffffffff
        if g>>16==p.addr>>16:
            return (p,(g&65535)-1) if 1<=(g&65535)<=8 else None
        r=[q.st for q in p.net.st if q.box.router]
        return (p,r[0]) if r else None
    def send(s,b,goal,kind,content,size,src):
        d=Dg(src,goal,kind,b.c[2],64 if kind in('stream','error') else 1,content,size); b.c[2]+=1
        r=s.route(b,goal)
        if r is None: s.comeback(b,d)
        else: s.give(r[0],r[1],d)
    def comeback(s,b,d):
        if d.kind!='stream' or d.off!=0: return
        g=d.content
        if any(p.addr==d.src for p in b.ports):
            b.c[7]+=1; s.erract(b,(d.src,d.goal,g.sp,g.dp)); return
        s.send(b,d.src,'error',(d.src,d.goal,g.sp,g.dp),36,d.cameport.addr)
    def erract(s,b,c):
        if b.router: return
        for x in b.doors:
            if x.kind=='end' and x.end.state==ASKING and b.ports[0].addr==c[0] and (x.paddr,x.port,x.pport)==c[1:]: s.stop(x.end,ABORTED)
    def got(s,b,p,d):
        if d.kind=='error': b.c[7]+=1; s.erract(b,d.content); return
        if b.router:
            if d.kind in('greeting','advert','thanks'): s.rgot(b,p,d)
        elif d.kind=='stream': s.seg(b,p,d)
    # ---- router
    def friendlist(s,b): return sorted(k for k,v in b.hear.items() if v[1])
    def rgot(s,b,p,d):
        q=s.portat(d.src); r=q.box.i; k=(p.k,r)
        if d.kind=='greeting':
            if k not in b.hear:
                if len(b.hear)>=16: s.stir(); return
                b.hear[k]=[0,False]
            was=b.hear[k][1]; b.hear[k]=[s.t,b.i in d.content]
            if not was and b.hear[k][1]:
                for of in b.base: b.due[(k,of)]=s.t
            if was and not b.hear[k][1]: s.unfriend(b,k)
        elif d.kind=='advert':
            if k not in b.hear or not b.hear[k][1]: return
            of,num,ent=d.content
            if len(b.thanks)<64: b.thanks.append((p,q,of,num))
            else: s.stir()
            have=b.base[of][0] if of in b.base else 0
            if num<have: b.due[(k,of)]=s.t
            else:
                b.due.pop((k,of),None)
                if num>have:
                    if of==b.i: b.great=max(b.great,num)
                    else: s.take(b,of,num,ent,k)
        else:
            of,num=d.content
            if of in b.base and b.base[of][0]==num: b.due.pop((k,of),None)
    def unfriend(s,b,k):
        for z in list(b.due):
            if z[0]==k: del b.due[z]
    def take(s,b,of,num,ent,k):
        b.base[of]=[num,s.t,ent]
        for f in s.friendlist(b):
            if f!=k: b.due[(f,of)]=s.t
    def rturn(s,b):
        for k in list(b.hear):
            if not b.ports[k[0]].net.up or s.t-b.hear[k][0]>=80:
                del b.hear[k]; s.unfriend(b,k)
        for of in list(b.base):
            if s.t-b.base[of][1]>=5000:
                del b.base[of]
                for z in list(b.due):
                    if z[1]==of: del b.due[z]
        ent=[('n',p.net.i,p.cost) for p in sorted(b.ports,key=lambda p:p.net.i) if p.net.up]
        ent+=[('f',r,b.ports[k].net.i,b.ports[k].cost) for k,r in sorted(s.friendlist(b),key=lambda z:(b.ports[z[0]].net.i,z[1]))]
        ent=ent[:24]
        if b.i not in b.base or ((ent!=b.lastadv or s.t-b.made>=2000 or b.great>b.base[b.i][0]) and s.t>=b.made+10):
            b.great+=1; b.lastadv=ent; b.made=s.t; s.take(b,b.i,b.great,ent,None)
        if s.t%20==0:
            for p in b.ports:
                if p.net.up:
                    names=[r for (k,r) in b.hear if k==p.k]
                    d=Dg(p.addr,0,'greeting',b.c[2],1,names,8+2*len(names)); b.c[2]+=1
                    s.putdg(p,None,d)
        for p,q,of,num in b.thanks:
            d=Dg(p.addr,q.addr,'thanks',b.c[2],1,(of,num),8); b.c[2]+=1; s.give(p,q.st,d)
        b.thanks=[]
        for f in s.friendlist(b):
            for of in range(16):
                at=b.due.get((f,of))
                if at is not None and at<=s.t:
                    p=b.ports[f[0]]; q=[q for q in p.net.st if q.box.i==f[1]][0]; e=b.base[of]
                    d=Dg(p.addr,q.addr,'advert',b.c[2],1,(of,e[0],e[2]),12+6*len(e[2])); b.c[2]+=1
                    s.give(p,q.st,d); b.due[(f,of)]=s.t+15
        s.ways(b)
    def ways(s,b):
        # all least paths by brute relaxation on (distance, set of first hops)
        edges={}
        for u in b.base:
            for e in b.base[u][2]:
                if e[0]=='f' and e[1] in b.base and any(g[0]=='f' and g[1]==u and g[2]==e[2] for g in b.base[e[1]][2]):
                    edges.setdefault(u,[]).append((e[1],e[2],e[3]))
        dist={b.i:0}; ch=True
        while ch:
            ch=False
            for u in list(dist):
                for v,n,c in edges.get(u,[]):
                    if dist.get(v,10**9)>dist[u]+c: dist[v]=dist[u]+c; ch=True
        def hops(v):
            if v==b.i: return set()
            h=set()
            for u in dist:
                for w,n,c in edges.get(u,[]):
                    if w==v and dist[u]+c==dist[v]: h|={(n,v)} if u==b.i else memo(u)
            return h
        cache={}
        def memo(v):
            if v not in cache: cache[v]=hops(v)
            return cache[v]
        new={}
        for y in s.nets:
            own=[p for p in b.ports if p.net is y and y.up]
            if own: new[y.i]=(own[0].cost,b.i,y.i); continue
            c=[(dist[r]+e[2],r) for r in dist if r in b.base for e in b.base[r][2] if e[0]=='n' and e[1]==y.i]
            if not c: continue
            m=min(z[0] for z in c); rs=[r for z,r in c if z==m]
            if b.i in rs: continue
            h=set()
            for r in rs: h|=memo(r)
            n,v=min(h); new[y.i]=(m,v,n)
        b.ways=new
    # ---- host
    def seg(s,b,p,d):
        g=d.content; dr=None
        for x in b.doors:
            if x.kind=='end' and (x.port,x.paddr,x.pport)==(g.dp,d.src,g.sp) and x.end.state not in(FREE,ABORTED): dr=x
        if dr is None and g.flags&OPEN and not g.flags&(RESET|THANKS):
            ls=[x for x in b.doors if x.kind=='listen' and x.port==g.dp]
            if ls:
                n=sum(1 for x in b.doors if x.kind=='end' and x.through is ls[0] and x.end.state==ANSWERING)
                fr=[x for x in b.doors if x.kind=='free']
                if n>=ls[0].bl or not fr: return
                dr=fr[0]; s.giveend(b,dr,g.dp,d.src,g.sp); dr.came=True; dr.through=ls[0]
        if dr is None:
            r=s.resets(g)
            if r: s.send(b,d.src,'stream',Seg(g.dp,g.sp,r[0],r[1],r[2],0,0,[],None),20,p.addr)
            return
        s.segat(dr.end,g)
    def resets(s,g):
        if g.flags&RESET: return None
        if g.flags&THANKS: return (RESET,g.thanked,0)
        return (RESET|THANKS,0,i32(g.num+g.size()))
    def opened(s,e,g):
        e.exp=i32(g.num+1); e.piece=min(e.own,g.largest or 536); e.win=g.window; e.wn=g.num; e.wt=g.thanked if g.flags&THANKS else e.first; e.peer=g.mk
    def rst(s,e,g):
        r=s.resets(g)
        if r: e.resetdue=r
    def segat(s,e,g):
        F=g.flags; room=2048-len(e.inn)
        if e.state==LISTENING:
            if F&RESET: return
            if F&THANKS: s.rst(e,g); return
            if F&OPEN: s.opened(e,g); e.state=ANSWERING; e.next=i32(e.first+1); e.opendue=True
            return
        if e.state==ASKING:
            if F&THANKS and g.thanked!=e.next: s.rst(e,g); return
            if F&RESET:
                if F&THANKS: s.stop(e,ABORTED)
                return
            if F&OPEN:
                s.opened(e,g)
                if F&THANKS: e.state=ON; s.thanked(e,g.thanked); e.opendue=False; e.th=True
                else: e.state=ANSWERING; e.opendue=True
            return
        sz=g.size()
        nums=[i32(g.num+i) for i in range(sz)] or [g.num]
        fit=any(0<=i32(z-e.exp)<room for z in nums) or (sz==0 and g.num==e.exp)
        if not fit:
            if not F&RESET: e.th=True
            if e.state==QUIET and F&LAST: e.quiet=s.t+2000
            return
        if F&RESET:
            if g.num==e.exp:
                if e.state==ANSWERING and e.listened: s.endbegin(e,e.first)
                elif e.state in(PARTING,ENDING,QUIET): s.stop(e,FREE)
                else: s.stop(e,ABORTED)
            else: e.th=True
            return
        if F&OPEN: e.th=True; return
        if not F&THANKS: return
        if e.state==ANSWERING:
            if g.thanked!=e.next: s.rst(e,g); return
            e.state=LEAVING if e.closed else ON; e.opendue=False
        elif before(e.next,g.thanked): e.th=True; return
        if before(e.oldest,g.thanked): s.thanked(e,g.thanked)
        if not before(g.thanked,e.oldest) and (before(e.wn,g.num) or (e.wn==g.num and i32(g.thanked-e.wt)>=0)):
            old=e.win; e.win=g.window; e.wn=g.num; e.wt=g.thanked
            if old==0 and e.win!=0:
                e.tries=0; e.probe=False
                if e.oldest==e.next: e.alarm=None
            if e.win==0: e.tries=0
        if e.lastthanked:
            if e.state==LEAVING: e.state=LEFT
            elif e.state==PARTING: s.stop(e,QUIET)
            elif e.state==ENDING: s.stop(e,FREE); return
        if e.state in(ON,LEAVING,LEFT):
            for i,v in enumerate(g.data):
                k=i32(g.num+i-e.exp)
                if 0<=k<room: e.came.setdefault(i32(g.num+i),v)
            if F&LAST and e.plast is None and 0<=i32(g.num+len(g.data)-e.exp)<room: e.plast=i32(g.num+len(g.data))
            while True:
                if e.plast is not None and e.exp==e.plast:
                    e.exp=i32(e.exp+1); e.over=True; e.came={}
                    if e.state==ON: e.state=ALONE
                    elif e.state==LEAVING: e.state=PARTING
                    else: s.stop(e,QUIET)
                    break
                if e.exp in e.came: e.inn.append(e.came.pop(e.exp)); e.exp=i32(e.exp+1)
                else: break
        if g.data or F&LAST: e.th=True
    def sentbytes(s,e):
        # bytes of OUT that were sent
        n=i32(e.next-e.oldest)
        if e.oldest==e.first: n-=1
        if e.lastsent and not e.lastthanked: n-=1
        return max(n,0)
    def thanked(s,e,th):
        n=i32(th-e.oldest)
        if e.oldest==e.first: n-=1
        if n>len(e.out): e.lastthanked=True; n=len(e.out)
        del e.out[:n]
        e.oldest=th
        if e.meas and not before(th,e.meas[0]):
            t=s.t-e.meas[1]; e.meas=None
            if e.sm is None: e.sm=8*t; e.sp=2*t
            else:
                d=t-cdiv(e.sm,8); e.sm+=d; q=abs(d)-cdiv(e.sp,4); e.sp+=q
            e.wait=max(20,min(1200,cdiv(e.sm,8)+max(e.sp,1)))
        e.tries=0; e.again=False
        e.alarm=s.t+e.wait if e.oldest!=e.next else None
    def hasnew(s,e): return s.sentbytes(e)<len(e.out) or (e.closed and not e.lastsent)
    def armprobe(s,e):
        if e.alarm is None and e.state in(ON,LEAVING,ALONE,PARTING,ENDING) and e.oldest==e.next and e.win==0 and s.hasnew(e): e.alarm=s.t+e.wait
    def hturn(s,b):
        for x in b.doors:
            if x.kind!='end': continue
            e=x.end
            if e.state==QUIET and s.t>=e.quiet: s.stop(e,FREE)
            if e.alarm is not None and s.t>=e.alarm:
                e.tries+=1
                if e.tries>8: s.stop(e,ABORTED)
                else:
                    if e.oldest!=e.next:
                        if e.state in(ASKING,ANSWERING): e.opendue=True
                        else: e.again=True
                    else: e.probe=True
                    e.wait=min(1200,2*e.wait); e.alarm=s.t+e.wait
            while True:
                g=s.nextseg(e)
                if g is None: break
                g.sp=x.port; g.dp=x.pport; g.mk=e
                s.send(b,x.paddr,'stream',g,20+len(g.data),b.ports[0].addr)
            if x.drain:
                while e.inn: x.drainv=i32(31*x.drainv+s.rd(x))
            if e.inn: s.stir()
            if x.came and (e.state==LISTENING or (e.state in(FREE,ABORTED) and not x.told)): s.freedoor(x); continue
            s.armprobe(e)
    def mk(s,e,fl,num,data):
        e.th=False
        return Seg(0,0,fl|THANKS,num,e.exp,2048-len(e.inn),0,data,None)
    def newsent(s,e):
        if e.alarm is None: e.alarm=s.t+e.wait
        if e.meas is None: e.meas=(e.next,s.t)
    def nextseg(s,e):
        if e.resetdue:
            f,n,t=e.resetdue; e.resetdue=None
            return Seg(0,0,f,n,t,0,0,[],None)
        if e.opendue:
            e.opendue=False
            if e.state==ANSWERING: g=s.mk(e,OPEN,e.first,[])
            else: g=Seg(0,0,OPEN,e.first,0,2048-len(e.inn),0,[],None)
            g.largest=e.own
            if e.opensent:
                e.meas=None
                if e.alarm is None: e.alarm=s.t+e.wait
            else: s.newsent(e)
            e.opensent=True
            return g
        k=s.sentbytes(e)
        if e.again:
            e.again=False; e.meas=None; n=min(k,e.piece)
            return s.mk(e,LAST if e.lastsent and not e.lastthanked and n==k else 0,e.oldest,e.out[:n])
        if e.state in(ON,LEAVING,ALONE,PARTING,ENDING):
            al=max(0,e.win-i32(e.next-e.oldest)); n=min(len(e.out)-k,e.piece,al)
            la=e.closed and not e.lastsent and k+n==len(e.out) and al-n>=1
            if n>0 or la:
                g=s.mk(e,LAST if la else 0,e.next,e.out[k:k+n]); e.next=i32(e.next+n+(1 if la else 0)); e.lastsent=e.lastsent or la; s.newsent(e); return g
        if e.probe:
            e.probe=False
            if k<len(e.out): g=s.mk(e,0,e.next,e.out[k:k+1]); e.next=i32(e.next+1); s.newsent(e); return g
            if e.closed and not e.lastsent: g=s.mk(e,LAST,e.next,[]); e.next=i32(e.next+1); e.lastsent=True; s.newsent(e); return g
        if e.th: return s.mk(e,0,e.next,[])
        return None
