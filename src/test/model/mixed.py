import random,sys
from model import *
def main(seed,n,mode,out):
    f=open(out,'w')
    for k in range(n):
        r=random.Random(seed*100003+k*17+mode)
        m=Model(); f.write('new\n'); calls=[0]
        def call(name,*args):
            calls[0]+=1
            try: v=getattr(m,name)(*args); v=int(v) if v is not None else 0
            except IA: v='IA'
            except IS: v='IS'
            f.write(' '.join([name]+[str(int(z)) for z in args]+[str(v)])+'\n'); return v
        nn=r.randint(1,5 if mode!=2 else 9); nr=r.randint(0,4 if mode!=2 else 8); nh=r.randint(1,4)
        if mode==3: nr=r.choice([0,0,1]); nn=r.randint(1,2); nh=r.randint(2,3)
        for i in range(nn): call('net',r.choice([100,101,107,120,150,200,300,576,1500,r.randint(100,1500)]),r.choice([1,1,1,2,3,5,r.randint(1,50)]))
        boxes=[]; 
        kinds=[True]*nr+[False]*nh; 
        if r.random()<.5: r.shuffle(kinds)
        for z in kinds: boxes.append((call('box',z),z))
        R=[b for b,z in boxes if z]; H=[b for b,z in boxes if not z]
        ha=[]; aa=[]
        for b in H:
            v=call('join',b,r.randrange(nn)); 
            if isinstance(v,int): ha.append(v)
        for i,b in enumerate(R):
            for j in range(r.randint(2,4)):
                v=call('join',b,(i+j)%nn if r.random()<.6 else r.randrange(nn))
                if isinstance(v,int): aa.append(v)
        if not ha: continue
        if r.random()<.5: call('run',r.randint(1,120))
        budget=r.choice([1500,4000,9000]) if mode!=2 else 1500
        lossy=r.random()
        while calls[0]<460 and m.t<budget:
            h=r.choice(H) if r.random()<.97 else r.randint(-1,len(boxes))
            hb=[i for i in range(6) if m.boxes[h].doors[i].kind!='free'] if h in H else []
            d=r.choice(hb) if hb and r.random()<.85 else r.randint(-1,6) if r.random()<.1 else r.randrange(6)
            c=r.randrange(40)
            if c==0: call('listen',h,r.choice([1,2,3,r.randint(-1,50001)]) if r.random()<.1 else r.choice([1,2]),r.randint(0,6) if r.random()<.1 else r.randint(1,5))
            elif c in(1,2): 
                z=r.random()
                ad=r.choice(ha) if z<.85 else r.choice(aa) if aa and z<.9 else 0 if z<.91 else r.getrandbits(32)-(1<<31) if z<.93 else (10<<24)+(r.randrange(nn+1)<<16)+r.randrange(11)
                call('open',h,ad,50000+r.randrange(3) if r.random()<.1 else r.choice([1,2]) if r.random()<.95 else r.randint(-1,65537))
            elif c in(3,4):
                ls=[i for i in hb if m.boxes[h].doors[i].kind=='listen']
                call('accept',h,r.choice(ls) if ls and r.random()<.9 else d)
            elif c==5: call('write',h,d,r.getrandbits(64)-(1<<63),r.randint(0,9))
            elif c in(6,7,8): call('fill',h,d,r.randint(-300,300),r.randint(-300,300),r.choice([1,5,60,100,500,1000,2048,r.randint(-1,2050)]))
            elif c==9: call('read',h,d)
            elif c in(10,11): call('readAll',h,d,r.choice([1,10,500,1024,2048,r.randint(-1,2050)]))
            elif c==12: call('close',h,d)
            elif c==13:
                if r.random()<.3: call('abort',h,d)
            elif c==14: call('drain',h,d,r.random()<.6)
            elif c==15: call('drained',h,d)
            elif c==16:
                if r.random()<.5: call('link',r.randrange(nn),r.random()<.4)
            elif c==17: call('link',r.randrange(-1 if r.random()<.05 else 0,nn+(r.random()<.05)),1)
            elif c in(18,19):
                v=0; kk=r.randint(1,32)
                for i in range(kk): v|=(r.choice([0,1,2,3]) if r.random()<lossy*.7 else 0)<<(2*i)
                if r.random()<.02: kk=r.choice([0,33,-1])
                call('fates',r.randrange(nn),v if v<1<<63 else v-(1<<64),kk)
            elif c==20 and R: call('cost',r.choice(R),r.randrange(nn),r.choice([1,2,5,10,20,1000,1001,0]))
            elif c==21:
                w=r.randint(-1,8); call('count',r.randrange(-1,max(nn,len(boxes))+1),w)
            elif c==22 and R: call('way',r.choice(R),r.randrange(nn),r.randint(0,2))
            elif c==23 and R: call('friends',r.choice(R),r.choice(R),r.randrange(nn))
            elif c==24 and R: call('advert',r.choice(R),r.choice(R))
            elif c==25 and R: call('shouldCost',r.choice(R),r.randrange(nn))
            elif c==26: call('underWay')
            elif c in(27,28): call('door',h,d,r.randint(-1,7) if r.random()<.1 else r.randint(0,6))
            elif c==29 and r.random()<.2: call('join',r.randrange(len(boxes)),r.randrange(nn))
            elif c==30 and r.random()<.1: call('box',r.random()<.5) 
            else:
                z=r.random()
                call('run',1 if z<.3 else r.randint(1,10) if z<.6 else r.randint(1,80) if z<.9 else r.randint(1,600))
        calls[0]=0
        for b,z in boxes:
            for w in range(2,8): call('count',b,w)
            if z:
                for y in range(nn):
                    call('shouldCost',b,y)
                    for w in range(3): call('way',b,y,w)
                    for o in R: call('friends',b,o,y)
                for o in R: call('advert',b,o)
            else:
                for dd in range(6):
                    for w in range(7): call('door',b,dd,w)
                    call('drained',b,dd)
        for y in range(nn): call('count',y,0); call('count',y,1)
        call('underWay'); call('strays'); call('overdue'); call('bound'); call('time')
    f.close()
main(int(sys.argv[1]),int(sys.argv[2]),int(sys.argv[3]),sys.argv[4])
