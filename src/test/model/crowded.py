import random,sys
from model import *
def main(seed,n,out):
    f=open(out,'w'); stat={'over':0,'waitdrop':0,'thanklost':0,'partial':0,'hearfull':0}
    for k in range(n):
        r=random.Random(seed*7001+k)
        m=Model(); f.write('new\n'); calls=[0]
        def call(name,*args):
            calls[0]+=1
            try: v=getattr(m,name)(*args); v=int(v) if v is not None else 0
            except IA: v='IA'
            except IS: v='IS'
            f.write(' '.join([name]+[str(int(z)) for z in args]+[str(v)])+'\n'); return v
        kind=k%4
        D=r.choice([1,3,20,50])
        H=[];R=[];ha={}
        if kind==0:   # one crowded net
            call('net',r.choice([100,104,140]),50)
            for i in range(r.randint(5,8)): H.append(call('box',0)); ha[H[-1]]=call('join',H[-1],0)
        elif kind==1: # two nets with a router, long silences
            call('net',100,r.choice([1,2,5])); call('net',r.choice([100,1500]),r.choice([1,2,5]))
            R.append(call('box',1)); call('join',0,0); call('join',0,1)
            for i in range(r.randint(3,6)): H.append(call('box',0)); ha[H[-1]]=call('join',H[-1],i%2)
        elif kind==2: # crowd of routers
            nn=r.randint(2,5)
            for i in range(nn): call('net',r.choice([100,120,1500]),r.choice([1,2,4]))
            for i in range(r.randint(8,13)):
                R.append(call('box',1))
                for j in range(nn):
                    if r.random()<.75: call('join',R[-1],j)
            for i in range(2): H.append(call('box',0)); ha[H[-1]]=call('join',H[-1],i%nn)
        else: # different sizes: much cutting
            call('net',1500,1); call('net',100,r.choice([1,3])); call('net',r.choice([1500,140]),2)
            for i in range(2):
                R.append(call('box',1)); call('join',i,i); call('join',i,i+1)
            for i in range(4): H.append(call('box',0)); ha[H[-1]]=call('join',H[-1],r.choice([0,2]))
        call('run',60)
        aa=[a for a in ha.values() if isinstance(a,int)]
        H=[h for h in H if isinstance(ha[h],int)]
        if not H: continue
        for h in H: call('listen',h,1,5)
        for _ in range(r.randint(2,10)): call('open',r.choice(H),r.choice(aa),1)
        call('run',r.choice([60,300]))
        limit=r.choice([1500,6000,12000])
        while calls[0]<400 and m.t<limit:
            h=r.choice(H); c=r.randrange(24)
            ends=[d for d in range(6) if m.boxes[h].doors[d].kind=='end' and m.canwrite(m.boxes[h].doors[d])]
            alls=[d for d in range(6) if m.boxes[h].doors[d].kind=='end']
            d=r.choice(ends) if ends else 0
            if c<8:
                for dd in ends: call('fill',h,dd,r.randrange(256),r.randrange(256),2048)
            elif c==8: call('open',h,r.choice(aa),1)
            elif c==9: call('accept',h,0)
            elif c==10: call('close',h,d)
            elif c==11 and r.random()<.3: call('abort',h,d)
            elif c<16:
                for dd in alls: call('drain',h,dd,r.random()<.9)
            elif c==16: call('fates',r.randrange(len(m.nets)),r.getrandbits(63) if r.random()<.5 else 0xAAAAAAAAAAAAAAA,r.randint(1,32))
            elif c==17 and r.random()<.4: call('link',r.randrange(len(m.nets)),r.random()<.4)
            elif c==18: call('link',r.randrange(len(m.nets)),1)
            elif c==19 and r.random()<.3:
                for _ in range(3): call('run',1000)
            elif c==20 and R: call('cost',r.choice(R),r.randrange(len(m.nets)),r.choice([1,5,10]))
            elif c==21: call('underWay')
            else: call('run',r.choice([1,1,2,5,20,60,100]))
        for b in range(len(m.boxes)):
            for w in range(2,8): call('count',b,w)
        for h in H:
            for dd in range(6):
                for w in (0,4,6): call('door',h,dd,w)
                call('drained',h,dd)
        for x in R:
            for y in range(len(m.nets)): call('way',x,y,0); call('way',x,y,1); call('way',x,y,2); call('shouldCost',x,y)
            for o in R: call('advert',x,o); 
        for y in range(len(m.nets)): call('count',y,0); call('count',y,1)
        call('underWay'); call('strays'); call('overdue')
    f.close(); print(Model.stats)
Model.stats={}
# tells how often the limits were met
import model as M
of=Model.frame
def fr(s,port,to,what,x):
    if port.net.up and len(s.fly)>=511: Model.stats['full']=Model.stats.get('full',0)+1
    Model.stats['max']=max(Model.stats.get('max',0),len(s.fly))
    return of(s,port,to,what,x)
Model.frame=fr
og=Model.give
def gv(s,port,st,dg):
    if len(port.wait)==16: Model.stats['wait16']=Model.stats.get('wait16',0)+1
    return og(s,port,st,dg)
Model.give=gv
oR=Model.rgot
def rg(s,b,p,d):
    if d.kind=='advert' and len(b.thanks)>=64: Model.stats['thanks']=Model.stats.get('thanks',0)+1
    if d.kind=='greeting' and len(b.hear)>=16: Model.stats['hear']=Model.stats.get('hear',0)+1
    return oR(s,b,p,d)
Model.rgot=rg
oP=Model.piece
def pc(s,b,d):
    if len(b.parts)>=4: Model.stats['parts']=Model.stats.get('parts',0)+1
    return oP(s,b,d)
Model.piece=pc
main(int(sys.argv[1]),int(sys.argv[2]),sys.argv[3])
