/-! the shape of the memory: what the number i is. Written by program (wip/whole/mksh.py). a, b, n: its row of ints, of longs, its length where it grows -/
/-- x -/
def im_c0 (g : im_G) (ad : Nat → Nat) (a : Nat → Int32) (b : Nat → Int64) (n : Nat) : va_E := .inr (12, [.ref (ad 1), .ref (ad 2), .ref (ad 3), .ref (ad 38), .int (a 4), .int (a 5), .int (a 6)])
/-- x.tape -/
def im_c1 (g : im_G) (ad : Nat → Nat) (a : Nat → Int32) (b : Nat → Int64) (n : Nat) : va_E := .inl (g.2.1 0, 500, .inl a)
/-- x.given -/
def im_c2 (g : im_G) (ad : Nat → Nat) (a : Nat → Int32) (b : Nat → Int64) (n : Nat) : va_E := .inl (g.2.1 2, 4, .inr (.inl b))
/-- x.parser -/
def im_c3 (g : im_G) (ad : Nat → Nat) (a : Nat → Int32) (b : Nat → Int64) (n : Nat) : va_E := .inr (9, [.ref (ad 5), .ref (ad 6), .ref (ad 30), .ref (ad 34), .ref (ad 4), .int (a 5), .int (a 6), .int (a 7), .int (a 8), .int (a 9), .int (a 10)])
/-- x.parser.known -/
def im_c4 (g : im_G) (ad : Nat → Nat) (a : Nat → Int32) (b : Nat → Int64) (n : Nat) : va_E := .inl (g.2.1 1, 512, .inl a)
/-- x.parser.fault -/
def im_c5 (g : im_G) (ad : Nat → Nat) (a : Nat → Int32) (b : Nat → Int64) (n : Nat) : va_E := .inr (3, [.int (a 0), .int (a 1)])
/-- x.parser.graph -/
def im_c6 (g : im_G) (ad : Nat → Nat) (a : Nat → Int32) (b : Nat → Int64) (n : Nat) : va_E := .inr (5, [.ref (ad 22), .ref (ad 7), .ref (ad 8), .ref (ad 9), .ref (ad 10), .ref (ad 11), .ref (ad 12), .ref (ad 13), .ref (ad 14), .ref (ad 15), .ref (ad 16), .ref (ad 17), .ref (ad 18), .ref (ad 19), .ref (ad 20), .ref (ad 21), .int (a 16)])
/-- x.parser.graph.kind -/
def im_c7 (g : im_G) (ad : Nat → Nat) (a : Nat → Int32) (b : Nat → Int64) (n : Nat) : va_E := .inl (g.2.1 1, 512, .inl a)
/-- x.parser.graph.type -/
def im_c8 (g : im_G) (ad : Nat → Nat) (a : Nat → Int32) (b : Nat → Int64) (n : Nat) : va_E := .inl (g.2.1 1, 512, .inl a)
/-- x.parser.graph.role -/
def im_c9 (g : im_G) (ad : Nat → Nat) (a : Nat → Int32) (b : Nat → Int64) (n : Nat) : va_E := .inl (g.2.1 1, 512, .inl a)
/-- x.parser.graph.parent -/
def im_c10 (g : im_G) (ad : Nat → Nat) (a : Nat → Int32) (b : Nat → Int64) (n : Nat) : va_E := .inl (g.2.1 1, 512, .inl a)
/-- x.parser.graph.target -/
def im_c11 (g : im_G) (ad : Nat → Nat) (a : Nat → Int32) (b : Nat → Int64) (n : Nat) : va_E := .inl (g.2.1 1, 512, .inl a)
/-- x.parser.graph.left -/
def im_c12 (g : im_G) (ad : Nat → Nat) (a : Nat → Int32) (b : Nat → Int64) (n : Nat) : va_E := .inl (g.2.1 1, 512, .inl a)
/-- x.parser.graph.right -/
def im_c13 (g : im_G) (ad : Nat → Nat) (a : Nat → Int32) (b : Nat → Int64) (n : Nat) : va_E := .inl (g.2.1 1, 512, .inl a)
/-- x.parser.graph.sibling -/
def im_c14 (g : im_G) (ad : Nat → Nat) (a : Nat → Int32) (b : Nat → Int64) (n : Nat) : va_E := .inl (g.2.1 1, 512, .inl a)
/-- x.parser.graph.region -/
def im_c15 (g : im_G) (ad : Nat → Nat) (a : Nat → Int32) (b : Nat → Int64) (n : Nat) : va_E := .inl (g.2.1 1, 512, .inl a)
/-- x.parser.graph.nextLeaf -/
def im_c16 (g : im_G) (ad : Nat → Nat) (a : Nat → Int32) (b : Nat → Int64) (n : Nat) : va_E := .inl (g.2.1 1, 512, .inl a)
/-- x.parser.graph.template -/
def im_c17 (g : im_G) (ad : Nat → Nat) (a : Nat → Int32) (b : Nat → Int64) (n : Nat) : va_E := .inl (g.2.1 1, 512, .inl a)
/-- x.parser.graph.slot -/
def im_c18 (g : im_G) (ad : Nat → Nat) (a : Nat → Int32) (b : Nat → Int64) (n : Nat) : va_E := .inl (g.2.1 1, 512, .inl a)
/-- x.parser.graph.place -/
def im_c19 (g : im_G) (ad : Nat → Nat) (a : Nat → Int32) (b : Nat → Int64) (n : Nat) : va_E := .inl (g.2.1 1, 512, .inl a)
/-- x.parser.graph.begin -/
def im_c20 (g : im_G) (ad : Nat → Nat) (a : Nat → Int32) (b : Nat → Int64) (n : Nat) : va_E := .inl (g.2.1 1, 512, .inl a)
/-- x.parser.graph.number -/
def im_c21 (g : im_G) (ad : Nat → Nat) (a : Nat → Int32) (b : Nat → Int64) (n : Nat) : va_E := .inl (g.2.1 2, 512, .inr (.inl b))
/-- x.parser.graph.layout -/
def im_c22 (g : im_G) (ad : Nat → Nat) (a : Nat → Int32) (b : Nat → Int64) (n : Nat) : va_E := .inr (6, [.ref (ad 23), .ref (ad 24), .ref (ad 25), .int (a 3), .ref (ad 26), .ref (ad 27), .int (a 6), .ref (ad 28), .ref (ad 29), .int (a 9)])
/-- x.parser.graph.layout.functionName -/
def im_c23 (g : im_G) (ad : Nat → Nat) (a : Nat → Int32) (b : Nat → Int64) (n : Nat) : va_E := .inl (g.2.1 2, 8, .inr (.inl b))
/-- x.parser.graph.layout.functionRegion -/
def im_c24 (g : im_G) (ad : Nat → Nat) (a : Nat → Int32) (b : Nat → Int64) (n : Nat) : va_E := .inl (g.2.1 1, 8, .inl a)
/-- x.parser.graph.layout.parameter -/
def im_c25 (g : im_G) (ad : Nat → Nat) (a : Nat → Int32) (b : Nat → Int64) (n : Nat) : va_E := .inl (g.2.1 1, 8, .inl a)
/-- x.parser.graph.layout.firstLeaf -/
def im_c26 (g : im_G) (ad : Nat → Nat) (a : Nat → Int32) (b : Nat → Int64) (n : Nat) : va_E := .inl (g.2.1 1, 512, .inl a)
/-- x.parser.graph.layout.template -/
def im_c27 (g : im_G) (ad : Nat → Nat) (a : Nat → Int32) (b : Nat → Int64) (n : Nat) : va_E := .inl (g.2.1 1, 512, .inl a)
/-- x.parser.graph.layout.slots -/
def im_c28 (g : im_G) (ad : Nat → Nat) (a : Nat → Int32) (b : Nat → Int64) (n : Nat) : va_E := .inl (g.2.1 1, 512, .inl a)
/-- x.parser.graph.layout.depth -/
def im_c29 (g : im_G) (ad : Nat → Nat) (a : Nat → Int32) (b : Nat → Int64) (n : Nat) : va_E := .inl (g.2.1 1, 512, .inl a)
/-- x.parser.tokens -/
def im_c30 (g : im_G) (ad : Nat → Nat) (a : Nat → Int32) (b : Nat → Int64) (n : Nat) : va_E := .inr (11, [.ref (ad 31), .ref (ad 32), .ref (ad 33), .int (a 3)])
/-- x.parser.tokens.kind -/
def im_c31 (g : im_G) (ad : Nat → Nat) (a : Nat → Int32) (b : Nat → Int64) (n : Nat) : va_E := .inl (g.2.1 1, 501, .inl a)
/-- x.parser.tokens.place -/
def im_c32 (g : im_G) (ad : Nat → Nat) (a : Nat → Int32) (b : Nat → Int64) (n : Nat) : va_E := .inl (g.2.1 1, 501, .inl a)
/-- x.parser.tokens.number -/
def im_c33 (g : im_G) (ad : Nat → Nat) (a : Nat → Int32) (b : Nat → Int64) (n : Nat) : va_E := .inl (g.2.1 2, 501, .inr (.inl b))
/-- x.parser.opens -/
def im_c34 (g : im_G) (ad : Nat → Nat) (a : Nat → Int32) (b : Nat → Int64) (n : Nat) : va_E := .inr (8, [.ref (ad 35), .ref (ad 36), .ref (ad 37), .int (a 3)])
/-- x.parser.opens.kind -/
def im_c35 (g : im_G) (ad : Nat → Nat) (a : Nat → Int32) (b : Nat → Int64) (n : Nat) : va_E := .inl (g.2.1 1, 512, .inl a)
/-- x.parser.opens.node -/
def im_c36 (g : im_G) (ad : Nat → Nat) (a : Nat → Int32) (b : Nat → Int64) (n : Nat) : va_E := .inl (g.2.1 1, 512, .inl a)
/-- x.parser.opens.region -/
def im_c37 (g : im_G) (ad : Nat → Nat) (a : Nat → Int32) (b : Nat → Int64) (n : Nat) : va_E := .inl (g.2.1 1, 512, .inl a)
/-- x.machine -/
def im_c38 (g : im_G) (ad : Nat → Nat) (a : Nat → Int32) (b : Nat → Int64) (n : Nat) : va_E := .inr (7, [.ref (ad 40), .ref (ad 64), .int (a 2), .int (a 3), .long (b 4), .ref (ad 67), .ref (ad 72), .ref (ad 39), .int (a 8), .int (a 9), .int (a 10), .int (a 11), .int (a 12), .int (a 13), .int (a 14), .long (b 15)])
/-- x.machine.ready -/
def im_c39 (g : im_G) (ad : Nat → Nat) (a : Nat → Int32) (b : Nat → Int64) (n : Nat) : va_E := .inl (g.2.1 1, 1001, .inl a)
/-- x.machine.graph -/
def im_c40 (g : im_G) (ad : Nat → Nat) (a : Nat → Int32) (b : Nat → Int64) (n : Nat) : va_E := .inr (5, [.ref (ad 56), .ref (ad 41), .ref (ad 42), .ref (ad 43), .ref (ad 44), .ref (ad 45), .ref (ad 46), .ref (ad 47), .ref (ad 48), .ref (ad 49), .ref (ad 50), .ref (ad 51), .ref (ad 52), .ref (ad 53), .ref (ad 54), .ref (ad 55), .int (a 16)])
/-- x.machine.graph.kind -/
def im_c41 (g : im_G) (ad : Nat → Nat) (a : Nat → Int32) (b : Nat → Int64) (n : Nat) : va_E := .inl (g.2.1 1, 512, .inl a)
/-- x.machine.graph.type -/
def im_c42 (g : im_G) (ad : Nat → Nat) (a : Nat → Int32) (b : Nat → Int64) (n : Nat) : va_E := .inl (g.2.1 1, 512, .inl a)
/-- x.machine.graph.role -/
def im_c43 (g : im_G) (ad : Nat → Nat) (a : Nat → Int32) (b : Nat → Int64) (n : Nat) : va_E := .inl (g.2.1 1, 512, .inl a)
/-- x.machine.graph.parent -/
def im_c44 (g : im_G) (ad : Nat → Nat) (a : Nat → Int32) (b : Nat → Int64) (n : Nat) : va_E := .inl (g.2.1 1, 512, .inl a)
/-- x.machine.graph.target -/
def im_c45 (g : im_G) (ad : Nat → Nat) (a : Nat → Int32) (b : Nat → Int64) (n : Nat) : va_E := .inl (g.2.1 1, 512, .inl a)
/-- x.machine.graph.left -/
def im_c46 (g : im_G) (ad : Nat → Nat) (a : Nat → Int32) (b : Nat → Int64) (n : Nat) : va_E := .inl (g.2.1 1, 512, .inl a)
/-- x.machine.graph.right -/
def im_c47 (g : im_G) (ad : Nat → Nat) (a : Nat → Int32) (b : Nat → Int64) (n : Nat) : va_E := .inl (g.2.1 1, 512, .inl a)
/-- x.machine.graph.sibling -/
def im_c48 (g : im_G) (ad : Nat → Nat) (a : Nat → Int32) (b : Nat → Int64) (n : Nat) : va_E := .inl (g.2.1 1, 512, .inl a)
/-- x.machine.graph.region -/
def im_c49 (g : im_G) (ad : Nat → Nat) (a : Nat → Int32) (b : Nat → Int64) (n : Nat) : va_E := .inl (g.2.1 1, 512, .inl a)
/-- x.machine.graph.nextLeaf -/
def im_c50 (g : im_G) (ad : Nat → Nat) (a : Nat → Int32) (b : Nat → Int64) (n : Nat) : va_E := .inl (g.2.1 1, 512, .inl a)
/-- x.machine.graph.template -/
def im_c51 (g : im_G) (ad : Nat → Nat) (a : Nat → Int32) (b : Nat → Int64) (n : Nat) : va_E := .inl (g.2.1 1, 512, .inl a)
/-- x.machine.graph.slot -/
def im_c52 (g : im_G) (ad : Nat → Nat) (a : Nat → Int32) (b : Nat → Int64) (n : Nat) : va_E := .inl (g.2.1 1, 512, .inl a)
/-- x.machine.graph.place -/
def im_c53 (g : im_G) (ad : Nat → Nat) (a : Nat → Int32) (b : Nat → Int64) (n : Nat) : va_E := .inl (g.2.1 1, 512, .inl a)
/-- x.machine.graph.begin -/
def im_c54 (g : im_G) (ad : Nat → Nat) (a : Nat → Int32) (b : Nat → Int64) (n : Nat) : va_E := .inl (g.2.1 1, 512, .inl a)
/-- x.machine.graph.number -/
def im_c55 (g : im_G) (ad : Nat → Nat) (a : Nat → Int32) (b : Nat → Int64) (n : Nat) : va_E := .inl (g.2.1 2, 512, .inr (.inl b))
/-- x.machine.graph.layout -/
def im_c56 (g : im_G) (ad : Nat → Nat) (a : Nat → Int32) (b : Nat → Int64) (n : Nat) : va_E := .inr (6, [.ref (ad 57), .ref (ad 58), .ref (ad 59), .int (a 3), .ref (ad 60), .ref (ad 61), .int (a 6), .ref (ad 62), .ref (ad 63), .int (a 9)])
/-- x.machine.graph.layout.functionName -/
def im_c57 (g : im_G) (ad : Nat → Nat) (a : Nat → Int32) (b : Nat → Int64) (n : Nat) : va_E := .inl (g.2.1 2, 8, .inr (.inl b))
/-- x.machine.graph.layout.functionRegion -/
def im_c58 (g : im_G) (ad : Nat → Nat) (a : Nat → Int32) (b : Nat → Int64) (n : Nat) : va_E := .inl (g.2.1 1, 8, .inl a)
/-- x.machine.graph.layout.parameter -/
def im_c59 (g : im_G) (ad : Nat → Nat) (a : Nat → Int32) (b : Nat → Int64) (n : Nat) : va_E := .inl (g.2.1 1, 8, .inl a)
/-- x.machine.graph.layout.firstLeaf -/
def im_c60 (g : im_G) (ad : Nat → Nat) (a : Nat → Int32) (b : Nat → Int64) (n : Nat) : va_E := .inl (g.2.1 1, 512, .inl a)
/-- x.machine.graph.layout.template -/
def im_c61 (g : im_G) (ad : Nat → Nat) (a : Nat → Int32) (b : Nat → Int64) (n : Nat) : va_E := .inl (g.2.1 1, 512, .inl a)
/-- x.machine.graph.layout.slots -/
def im_c62 (g : im_G) (ad : Nat → Nat) (a : Nat → Int32) (b : Nat → Int64) (n : Nat) : va_E := .inl (g.2.1 1, 512, .inl a)
/-- x.machine.graph.layout.depth -/
def im_c63 (g : im_G) (ad : Nat → Nat) (a : Nat → Int32) (b : Nat → Int64) (n : Nat) : va_E := .inl (g.2.1 1, 512, .inl a)
/-- x.machine.store -/
def im_c64 (g : im_G) (ad : Nat → Nat) (a : Nat → Int32) (b : Nat → Int64) (n : Nat) : va_E := .inr (10, [.ref (ad 65), .ref (ad 66), .int (a 2)])
/-- x.machine.store.sort -/
def im_c65 (g : im_G) (ad : Nat → Nat) (a : Nat → Int32) (b : Nat → Int64) (n : Nat) : va_E := .inl (g.2.1 0, n, .inl a)
/-- x.machine.store.word -/
def im_c66 (g : im_G) (ad : Nat → Nat) (a : Nat → Int32) (b : Nat → Int64) (n : Nat) : va_E := .inl (g.2.1 2, n, .inr (.inl b))
/-- x.machine.frames -/
def im_c67 (g : im_G) (ad : Nat → Nat) (a : Nat → Int32) (b : Nat → Int64) (n : Nat) : va_E := .inr (4, [.ref (ad 68), .ref (ad 69), .ref (ad 70), .ref (ad 71), .int (a 4)])
/-- x.machine.frames.base -/
def im_c68 (g : im_G) (ad : Nat → Nat) (a : Nat → Int32) (b : Nat → Int64) (n : Nat) : va_E := .inl (g.2.1 1, n, .inl a)
/-- x.machine.frames.owner -/
def im_c69 (g : im_G) (ad : Nat → Nat) (a : Nat → Int32) (b : Nat → Int64) (n : Nat) : va_E := .inl (g.2.1 1, n, .inl a)
/-- x.machine.frames.site -/
def im_c70 (g : im_G) (ad : Nat → Nat) (a : Nat → Int32) (b : Nat → Int64) (n : Nat) : va_E := .inl (g.2.1 1, n, .inl a)
/-- x.machine.frames.following -/
def im_c71 (g : im_G) (ad : Nat → Nat) (a : Nat → Int32) (b : Nat → Int64) (n : Nat) : va_E := .inl (g.2.1 1, n, .inl a)
/-- x.machine.chains -/
def im_c72 (g : im_G) (ad : Nat → Nat) (a : Nat → Int32) (b : Nat → Int64) (n : Nat) : va_E := .inr (2, [.ref (ad 73), .ref (ad 74), .int (a 2), .int (a 3)])
/-- x.machine.chains.who -/
def im_c73 (g : im_G) (ad : Nat → Nat) (a : Nat → Int32) (b : Nat → Int64) (n : Nat) : va_E := .inl (g.2.1 1, n, .inl a)
/-- x.machine.chains.next -/
def im_c74 (g : im_G) (ad : Nat → Nat) (a : Nat → Int32) (b : Nat → Int64) (n : Nat) : va_E := .inl (g.2.1 1, n, .inl a)
/-- m -/
def im_c75 (g : im_G) (ad : Nat → Nat) (a : Nat → Int32) (b : Nat → Int64) (n : Nat) : va_E := .inr (13, [.int (a 0), .ref (ad 76), .int (a 2), .int (a 3), .int (a 4), .int (a 5), .ref (ad 77), .ref (ad 78), .ref (ad 79), .ref (ad 80), .int (a 10), .ref (ad 81), .ref (ad 82), .ref (ad 83), .ref (ad 84), .ref (ad 85), .ref (ad 86), .ref (ad 87), .ref (ad 88), .ref (ad 89), .ref (ad 90), .ref (ad 91), .ref (ad 92), .ref (ad 93), .ref (ad 94), .ref (ad 95), .int (a 26), .int (a 27), .ref (ad 96), .ref (ad 97), .ref (ad 98), .ref (ad 99), .ref (ad 100), .ref (ad 101), .ref (ad 102), .int (a 35), .int (a 36), .int (a 37), .ref (ad 103), .ref (ad 104), .int (a 40), .ref (ad 105), .ref (ad 106), .ref (ad 107), .ref (ad 108), .ref (ad 109), .ref (ad 110), .ref (ad 111), .ref (ad 112), .ref (ad 113), .ref (ad 114), .ref (ad 115), .int (a 52), .ref (ad 116), .ref (ad 117), .ref (ad 118), .ref (ad 119), .int (a 57), .ref (ad 120), .ref (ad 121), .ref (ad 122), .ref (ad 123), .ref (ad 124), .ref (ad 125), .int (a 64), .ref (ad 126), .ref (ad 127), .ref (ad 128), .int (a 68), .ref (ad 129), .ref (ad 130), .ref (ad 131), .int (a 72), .int (a 73), .int (a 74), .int (a 75), .int (a 76), .int (a 77), .int (a 78), .ref (ad 132), .ref (ad 133), .int (a 81), .long (b 82)])
/-- m.tape -/
def im_c76 (g : im_G) (ad : Nat → Nat) (a : Nat → Int32) (b : Nat → Int64) (n : Nat) : va_E := .inl (g.2.1 1, 500, .inl a)
/-- m.tokenKind -/
def im_c77 (g : im_G) (ad : Nat → Nat) (a : Nat → Int32) (b : Nat → Int64) (n : Nat) : va_E := .inl (g.2.1 1, 502, .inl a)
/-- m.tokenCode -/
def im_c78 (g : im_G) (ad : Nat → Nat) (a : Nat → Int32) (b : Nat → Int64) (n : Nat) : va_E := .inl (g.2.1 1, 502, .inl a)
/-- m.tokenPlace -/
def im_c79 (g : im_G) (ad : Nat → Nat) (a : Nat → Int32) (b : Nat → Int64) (n : Nat) : va_E := .inl (g.2.1 1, 502, .inl a)
/-- m.tokenValue -/
def im_c80 (g : im_G) (ad : Nat → Nat) (a : Nat → Int32) (b : Nat → Int64) (n : Nat) : va_E := .inl (g.2.1 2, 502, .inr (.inl b))
/-- m.node -/
def im_c81 (g : im_G) (ad : Nat → Nat) (a : Nat → Int32) (b : Nat → Int64) (n : Nat) : va_E := .inl (g.2.1 1, 1200, .inl a)
/-- m.place -/
def im_c82 (g : im_G) (ad : Nat → Nat) (a : Nat → Int32) (b : Nat → Int64) (n : Nat) : va_E := .inl (g.2.1 1, 1200, .inl a)
/-- m.one -/
def im_c83 (g : im_G) (ad : Nat → Nat) (a : Nat → Int32) (b : Nat → Int64) (n : Nat) : va_E := .inl (g.2.1 1, 1200, .inl a)
/-- m.two -/
def im_c84 (g : im_G) (ad : Nat → Nat) (a : Nat → Int32) (b : Nat → Int64) (n : Nat) : va_E := .inl (g.2.1 1, 1200, .inl a)
/-- m.three -/
def im_c85 (g : im_G) (ad : Nat → Nat) (a : Nat → Int32) (b : Nat → Int64) (n : Nat) : va_E := .inl (g.2.1 1, 1200, .inl a)
/-- m.sign -/
def im_c86 (g : im_G) (ad : Nat → Nat) (a : Nat → Int32) (b : Nat → Int64) (n : Nat) : va_E := .inl (g.2.1 1, 1200, .inl a)
/-- m.named -/
def im_c87 (g : im_G) (ad : Nat → Nat) (a : Nat → Int32) (b : Nat → Int64) (n : Nat) : va_E := .inl (g.2.1 2, 1200, .inr (.inl b))
/-- m.type -/
def im_c88 (g : im_G) (ad : Nat → Nat) (a : Nat → Int32) (b : Nat → Int64) (n : Nat) : va_E := .inl (g.2.1 1, 1200, .inl a)
/-- m.rowFrom -/
def im_c89 (g : im_G) (ad : Nat → Nat) (a : Nat → Int32) (b : Nat → Int64) (n : Nat) : va_E := .inl (g.2.1 1, 1200, .inl a)
/-- m.rowMany -/
def im_c90 (g : im_G) (ad : Nat → Nat) (a : Nat → Int32) (b : Nat → Int64) (n : Nat) : va_E := .inl (g.2.1 1, 1200, .inl a)
/-- m.moreFrom -/
def im_c91 (g : im_G) (ad : Nat → Nat) (a : Nat → Int32) (b : Nat → Int64) (n : Nat) : va_E := .inl (g.2.1 1, 1200, .inl a)
/-- m.moreMany -/
def im_c92 (g : im_G) (ad : Nat → Nat) (a : Nat → Int32) (b : Nat → Int64) (n : Nat) : va_E := .inl (g.2.1 1, 1200, .inl a)
/-- m.rowName -/
def im_c93 (g : im_G) (ad : Nat → Nat) (a : Nat → Int32) (b : Nat → Int64) (n : Nat) : va_E := .inl (g.2.1 2, 1200, .inr (.inl b))
/-- m.rowPlace -/
def im_c94 (g : im_G) (ad : Nat → Nat) (a : Nat → Int32) (b : Nat → Int64) (n : Nat) : va_E := .inl (g.2.1 1, 1200, .inl a)
/-- m.rowNode -/
def im_c95 (g : im_G) (ad : Nat → Nat) (a : Nat → Int32) (b : Nat → Int64) (n : Nat) : va_E := .inl (g.2.1 1, 1200, .inl a)
/-- m.functionFrom -/
def im_c96 (g : im_G) (ad : Nat → Nat) (a : Nat → Int32) (b : Nat → Int64) (n : Nat) : va_E := .inl (g.2.1 1, 16, .inl a)
/-- m.functionName -/
def im_c97 (g : im_G) (ad : Nat → Nat) (a : Nat → Int32) (b : Nat → Int64) (n : Nat) : va_E := .inl (g.2.1 2, 16, .inr (.inl b))
/-- m.functionPlace -/
def im_c98 (g : im_G) (ad : Nat → Nat) (a : Nat → Int32) (b : Nat → Int64) (n : Nat) : va_E := .inl (g.2.1 1, 16, .inl a)
/-- m.parameters -/
def im_c99 (g : im_G) (ad : Nat → Nat) (a : Nat → Int32) (b : Nat → Int64) (n : Nat) : va_E := .inl (g.2.1 1, 16, .inl a)
/-- m.parameter -/
def im_c100 (g : im_G) (ad : Nat → Nat) (a : Nat → Int32) (b : Nat → Int64) (n : Nat) : va_E := .inl (g.2.1 2, 64, .inr (.inl b))
/-- m.parameterPlace -/
def im_c101 (g : im_G) (ad : Nat → Nat) (a : Nat → Int32) (b : Nat → Int64) (n : Nat) : va_E := .inl (g.2.1 1, 64, .inl a)
/-- m.body -/
def im_c102 (g : im_G) (ad : Nat → Nat) (a : Nat → Int32) (b : Nat → Int64) (n : Nat) : va_E := .inl (g.2.1 1, 16, .inl a)
/-- m.region -/
def im_c103 (g : im_G) (ad : Nat → Nat) (a : Nat → Int32) (b : Nat → Int64) (n : Nat) : va_E := .inl (g.2.1 1, 1200, .inl a)
/-- m.spot -/
def im_c104 (g : im_G) (ad : Nat → Nat) (a : Nat → Int32) (b : Nat → Int64) (n : Nat) : va_E := .inl (g.2.1 1, 1200, .inl a)
/-- m.root -/
def im_c105 (g : im_G) (ad : Nat → Nat) (a : Nat → Int32) (b : Nat → Int64) (n : Nat) : va_E := .inl (g.2.1 1, 640, .inl a)
/-- m.size -/
def im_c106 (g : im_G) (ad : Nat → Nat) (a : Nat → Int32) (b : Nat → Int64) (n : Nat) : va_E := .inl (g.2.1 1, 640, .inl a)
/-- m.firstNode -/
def im_c107 (g : im_G) (ad : Nat → Nat) (a : Nat → Int32) (b : Nat → Int64) (n : Nat) : va_E := .inl (g.2.1 1, 640, .inl a)
/-- m.nextNode -/
def im_c108 (g : im_G) (ad : Nat → Nat) (a : Nat → Int32) (b : Nat → Int64) (n : Nat) : va_E := .inl (g.2.1 1, 1200, .inl a)
/-- m.lastNode -/
def im_c109 (g : im_G) (ad : Nat → Nat) (a : Nat → Int32) (b : Nat → Int64) (n : Nat) : va_E := .inl (g.2.1 1, 640, .inl a)
/-- m.inner -/
def im_c110 (g : im_G) (ad : Nat → Nat) (a : Nat → Int32) (b : Nat → Int64) (n : Nat) : va_E := .inl (g.2.1 1, 1200, .inl a)
/-- m.inner2 -/
def im_c111 (g : im_G) (ad : Nat → Nat) (a : Nat → Int32) (b : Nat → Int64) (n : Nat) : va_E := .inl (g.2.1 1, 1200, .inl a)
/-- m.inner3 -/
def im_c112 (g : im_G) (ad : Nat → Nat) (a : Nat → Int32) (b : Nat → Int64) (n : Nat) : va_E := .inl (g.2.1 1, 1200, .inl a)
/-- m.bound -/
def im_c113 (g : im_G) (ad : Nat → Nat) (a : Nat → Int32) (b : Nat → Int64) (n : Nat) : va_E := .inl (g.2.1 1, 1200, .inl a)
/-- m.boundNode -/
def im_c114 (g : im_G) (ad : Nat → Nat) (a : Nat → Int32) (b : Nat → Int64) (n : Nat) : va_E := .inl (g.2.1 1, 1200, .inl a)
/-- m.boundPart -/
def im_c115 (g : im_G) (ad : Nat → Nat) (a : Nat → Int32) (b : Nat → Int64) (n : Nat) : va_E := .inl (g.2.1 1, 1200, .inl a)
/-- m.knownName -/
def im_c116 (g : im_G) (ad : Nat → Nat) (a : Nat → Int32) (b : Nat → Int64) (n : Nat) : va_E := .inl (g.2.1 2, 260, .inr (.inl b))
/-- m.knownBy -/
def im_c117 (g : im_G) (ad : Nat → Nat) (a : Nat → Int32) (b : Nat → Int64) (n : Nat) : va_E := .inl (g.2.1 1, 260, .inl a)
/-- m.knownNode -/
def im_c118 (g : im_G) (ad : Nat → Nat) (a : Nat → Int32) (b : Nat → Int64) (n : Nat) : va_E := .inl (g.2.1 1, 260, .inl a)
/-- m.knownPart -/
def im_c119 (g : im_G) (ad : Nat → Nat) (a : Nat → Int32) (b : Nat → Int64) (n : Nat) : va_E := .inl (g.2.1 1, 260, .inl a)
/-- m.actRegion -/
def im_c120 (g : im_G) (ad : Nat → Nat) (a : Nat → Int32) (b : Nat → Int64) (n : Nat) : va_E := .inl (g.2.1 1, 24000, .inl a)
/-- m.actParent -/
def im_c121 (g : im_G) (ad : Nat → Nat) (a : Nat → Int32) (b : Nat → Int64) (n : Nat) : va_E := .inl (g.2.1 1, 24000, .inl a)
/-- m.actBase -/
def im_c122 (g : im_G) (ad : Nat → Nat) (a : Nat → Int32) (b : Nat → Int64) (n : Nat) : va_E := .inl (g.2.1 1, 24000, .inl a)
/-- m.actLeft -/
def im_c123 (g : im_G) (ad : Nat → Nat) (a : Nat → Int32) (b : Nat → Int64) (n : Nat) : va_E := .inl (g.2.1 1, 24000, .inl a)
/-- m.actCaller -/
def im_c124 (g : im_G) (ad : Nat → Nat) (a : Nat → Int32) (b : Nat → Int64) (n : Nat) : va_E := .inl (g.2.1 1, 24000, .inl a)
/-- m.actCall -/
def im_c125 (g : im_G) (ad : Nat → Nat) (a : Nat → Int32) (b : Nat → Int64) (n : Nat) : va_E := .inl (g.2.1 1, 24000, .inl a)
/-- m.kind -/
def im_c126 (g : im_G) (ad : Nat → Nat) (a : Nat → Int32) (b : Nat → Int64) (n : Nat) : va_E := .inl (g.2.1 1, 520000, .inl a)
/-- m.value -/
def im_c127 (g : im_G) (ad : Nat → Nat) (a : Nat → Int32) (b : Nat → Int64) (n : Nat) : va_E := .inl (g.2.1 2, 520000, .inr (.inl b))
/-- m.child -/
def im_c128 (g : im_G) (ad : Nat → Nat) (a : Nat → Int32) (b : Nat → Int64) (n : Nat) : va_E := .inl (g.2.1 1, 520000, .inl a)
/-- m.tableFirst -/
def im_c129 (g : im_G) (ad : Nat → Nat) (a : Nat → Int32) (b : Nat → Int64) (n : Nat) : va_E := .inl (g.2.1 1, 1002, .inl a)
/-- m.tableMany -/
def im_c130 (g : im_G) (ad : Nat → Nat) (a : Nat → Int32) (b : Nat → Int64) (n : Nat) : va_E := .inl (g.2.1 1, 1002, .inl a)
/-- m.given -/
def im_c131 (g : im_G) (ad : Nat → Nat) (a : Nat → Int32) (b : Nat → Int64) (n : Nat) : va_E := .inl (g.2.1 2, 4, .inr (.inl b))
/-- m.heldToken -/
def im_c132 (g : im_G) (ad : Nat → Nat) (a : Nat → Int32) (b : Nat → Int64) (n : Nat) : va_E := .inl (g.2.1 1, 502, .inl a)
/-- m.heldNode -/
def im_c133 (g : im_G) (ad : Nat → Nat) (a : Nat → Int32) (b : Nat → Int64) (n : Nat) : va_E := .inl (g.2.1 1, 502, .inl a)
/-- out (the law) -/
def im_c134 (g : im_G) (ad : Nat → Nat) (a : Nat → Int32) (b : Nat → Int64) (n : Nat) : va_E := .inl (g.2.1 2, 1, .inr (.inl b))
def im_sh (g : im_G) (ad : Nat → Nat) (i : Nat) (a : Nat → Int32) (b : Nat → Int64) (n : Nat) : va_E := cond (Nat.ble i 66) (cond (Nat.ble i 32) (cond (Nat.ble i 15) (cond (Nat.ble i 7) (cond (Nat.ble i 3) (cond (Nat.ble i 1) (cond (Nat.ble i 0) (im_c0 g ad a b n) (im_c1 g ad a b n)) (cond (Nat.ble i 2) (im_c2 g ad a b n) (im_c3 g ad a b n))) (cond (Nat.ble i 5) (cond (Nat.ble i 4) (im_c4 g ad a b n) (im_c5 g ad a b n)) (cond (Nat.ble i 6) (im_c6 g ad a b n) (im_c7 g ad a b n)))) (cond (Nat.ble i 11) (cond (Nat.ble i 9) (cond (Nat.ble i 8) (im_c8 g ad a b n) (im_c9 g ad a b n)) (cond (Nat.ble i 10) (im_c10 g ad a b n) (im_c11 g ad a b n))) (cond (Nat.ble i 13) (cond (Nat.ble i 12) (im_c12 g ad a b n) (im_c13 g ad a b n)) (cond (Nat.ble i 14) (im_c14 g ad a b n) (im_c15 g ad a b n))))) (cond (Nat.ble i 23) (cond (Nat.ble i 19) (cond (Nat.ble i 17) (cond (Nat.ble i 16) (im_c16 g ad a b n) (im_c17 g ad a b n)) (cond (Nat.ble i 18) (im_c18 g ad a b n) (im_c19 g ad a b n))) (cond (Nat.ble i 21) (cond (Nat.ble i 20) (im_c20 g ad a b n) (im_c21 g ad a b n)) (cond (Nat.ble i 22) (im_c22 g ad a b n) (im_c23 g ad a b n)))) (cond (Nat.ble i 27) (cond (Nat.ble i 25) (cond (Nat.ble i 24) (im_c24 g ad a b n) (im_c25 g ad a b n)) (cond (Nat.ble i 26) (im_c26 g ad a b n) (im_c27 g ad a b n))) (cond (Nat.ble i 29) (cond (Nat.ble i 28) (im_c28 g ad a b n) (im_c29 g ad a b n)) (cond (Nat.ble i 30) (im_c30 g ad a b n) (cond (Nat.ble i 31) (im_c31 g ad a b n) (im_c32 g ad a b n))))))) (cond (Nat.ble i 49) (cond (Nat.ble i 40) (cond (Nat.ble i 36) (cond (Nat.ble i 34) (cond (Nat.ble i 33) (im_c33 g ad a b n) (im_c34 g ad a b n)) (cond (Nat.ble i 35) (im_c35 g ad a b n) (im_c36 g ad a b n))) (cond (Nat.ble i 38) (cond (Nat.ble i 37) (im_c37 g ad a b n) (im_c38 g ad a b n)) (cond (Nat.ble i 39) (im_c39 g ad a b n) (im_c40 g ad a b n)))) (cond (Nat.ble i 44) (cond (Nat.ble i 42) (cond (Nat.ble i 41) (im_c41 g ad a b n) (im_c42 g ad a b n)) (cond (Nat.ble i 43) (im_c43 g ad a b n) (im_c44 g ad a b n))) (cond (Nat.ble i 46) (cond (Nat.ble i 45) (im_c45 g ad a b n) (im_c46 g ad a b n)) (cond (Nat.ble i 47) (im_c47 g ad a b n) (cond (Nat.ble i 48) (im_c48 g ad a b n) (im_c49 g ad a b n)))))) (cond (Nat.ble i 57) (cond (Nat.ble i 53) (cond (Nat.ble i 51) (cond (Nat.ble i 50) (im_c50 g ad a b n) (im_c51 g ad a b n)) (cond (Nat.ble i 52) (im_c52 g ad a b n) (im_c53 g ad a b n))) (cond (Nat.ble i 55) (cond (Nat.ble i 54) (im_c54 g ad a b n) (im_c55 g ad a b n)) (cond (Nat.ble i 56) (im_c56 g ad a b n) (im_c57 g ad a b n)))) (cond (Nat.ble i 61) (cond (Nat.ble i 59) (cond (Nat.ble i 58) (im_c58 g ad a b n) (im_c59 g ad a b n)) (cond (Nat.ble i 60) (im_c60 g ad a b n) (im_c61 g ad a b n))) (cond (Nat.ble i 63) (cond (Nat.ble i 62) (im_c62 g ad a b n) (im_c63 g ad a b n)) (cond (Nat.ble i 64) (im_c64 g ad a b n) (cond (Nat.ble i 65) (im_c65 g ad a b n) (im_c66 g ad a b n)))))))) (cond (Nat.ble i 100) (cond (Nat.ble i 83) (cond (Nat.ble i 74) (cond (Nat.ble i 70) (cond (Nat.ble i 68) (cond (Nat.ble i 67) (im_c67 g ad a b n) (im_c68 g ad a b n)) (cond (Nat.ble i 69) (im_c69 g ad a b n) (im_c70 g ad a b n))) (cond (Nat.ble i 72) (cond (Nat.ble i 71) (im_c71 g ad a b n) (im_c72 g ad a b n)) (cond (Nat.ble i 73) (im_c73 g ad a b n) (im_c74 g ad a b n)))) (cond (Nat.ble i 78) (cond (Nat.ble i 76) (cond (Nat.ble i 75) (im_c75 g ad a b n) (im_c76 g ad a b n)) (cond (Nat.ble i 77) (im_c77 g ad a b n) (im_c78 g ad a b n))) (cond (Nat.ble i 80) (cond (Nat.ble i 79) (im_c79 g ad a b n) (im_c80 g ad a b n)) (cond (Nat.ble i 81) (im_c81 g ad a b n) (cond (Nat.ble i 82) (im_c82 g ad a b n) (im_c83 g ad a b n)))))) (cond (Nat.ble i 91) (cond (Nat.ble i 87) (cond (Nat.ble i 85) (cond (Nat.ble i 84) (im_c84 g ad a b n) (im_c85 g ad a b n)) (cond (Nat.ble i 86) (im_c86 g ad a b n) (im_c87 g ad a b n))) (cond (Nat.ble i 89) (cond (Nat.ble i 88) (im_c88 g ad a b n) (im_c89 g ad a b n)) (cond (Nat.ble i 90) (im_c90 g ad a b n) (im_c91 g ad a b n)))) (cond (Nat.ble i 95) (cond (Nat.ble i 93) (cond (Nat.ble i 92) (im_c92 g ad a b n) (im_c93 g ad a b n)) (cond (Nat.ble i 94) (im_c94 g ad a b n) (im_c95 g ad a b n))) (cond (Nat.ble i 97) (cond (Nat.ble i 96) (im_c96 g ad a b n) (im_c97 g ad a b n)) (cond (Nat.ble i 98) (im_c98 g ad a b n) (cond (Nat.ble i 99) (im_c99 g ad a b n) (im_c100 g ad a b n))))))) (cond (Nat.ble i 117) (cond (Nat.ble i 108) (cond (Nat.ble i 104) (cond (Nat.ble i 102) (cond (Nat.ble i 101) (im_c101 g ad a b n) (im_c102 g ad a b n)) (cond (Nat.ble i 103) (im_c103 g ad a b n) (im_c104 g ad a b n))) (cond (Nat.ble i 106) (cond (Nat.ble i 105) (im_c105 g ad a b n) (im_c106 g ad a b n)) (cond (Nat.ble i 107) (im_c107 g ad a b n) (im_c108 g ad a b n)))) (cond (Nat.ble i 112) (cond (Nat.ble i 110) (cond (Nat.ble i 109) (im_c109 g ad a b n) (im_c110 g ad a b n)) (cond (Nat.ble i 111) (im_c111 g ad a b n) (im_c112 g ad a b n))) (cond (Nat.ble i 114) (cond (Nat.ble i 113) (im_c113 g ad a b n) (im_c114 g ad a b n)) (cond (Nat.ble i 115) (im_c115 g ad a b n) (cond (Nat.ble i 116) (im_c116 g ad a b n) (im_c117 g ad a b n)))))) (cond (Nat.ble i 125) (cond (Nat.ble i 121) (cond (Nat.ble i 119) (cond (Nat.ble i 118) (im_c118 g ad a b n) (im_c119 g ad a b n)) (cond (Nat.ble i 120) (im_c120 g ad a b n) (im_c121 g ad a b n))) (cond (Nat.ble i 123) (cond (Nat.ble i 122) (im_c122 g ad a b n) (im_c123 g ad a b n)) (cond (Nat.ble i 124) (im_c124 g ad a b n) (im_c125 g ad a b n)))) (cond (Nat.ble i 129) (cond (Nat.ble i 127) (cond (Nat.ble i 126) (im_c126 g ad a b n) (im_c127 g ad a b n)) (cond (Nat.ble i 128) (im_c128 g ad a b n) (im_c129 g ad a b n))) (cond (Nat.ble i 131) (cond (Nat.ble i 130) (im_c130 g ad a b n) (im_c131 g ad a b n)) (cond (Nat.ble i 132) (im_c132 g ad a b n) (cond (Nat.ble i 133) (im_c133 g ad a b n) (im_c134 g ad a b n))))))))
abbrev im_S : Type := (Nat → Nat → Int32) × (Nat → Nat → Int64) × (Nat → Nat)
def im_cn (g : im_G) (ad : Nat → Nat) (S : im_S) : Nat → va_E := fun i => im_sh g ad i (S.1 i) (S.2.1 i) (S.2.2 i)
def uI (S : im_S) (i k : Nat) (v : Int32) : im_S := (va_up S.1 i (upd (S.1 i) k v), S.2)
def uJ (S : im_S) (i k : Nat) (v : Int64) : im_S := (S.1, va_up S.2.1 i (vp_updL (S.2.1 i) k v), S.2.2)
theorem im_cn_uI (g : im_G) (ad : Nat → Nat) (S : im_S) (i k : Nat) (v : Int32) : im_cn g ad (uI S i k v) = va_up (im_cn g ad S) i (im_sh g ad i (upd (S.1 i) k v) (S.2.1 i) (S.2.2 i)) := by
  funext j
  by_cases h : j = i
  · subst h; simp [im_cn, uI, va_up]
  · simp [im_cn, uI, va_up, h]
theorem im_cn_uJ (g : im_G) (ad : Nat → Nat) (S : im_S) (i k : Nat) (v : Int64) : im_cn g ad (uJ S i k v) = va_up (im_cn g ad S) i (im_sh g ad i (S.1 i) (vp_updL (S.2.1 i) k v) (S.2.2 i)) := by
  funext j
  by_cases h : j = i
  · subst h; simp [im_cn, uJ, va_up]
  · simp [im_cn, uJ, va_up, h]
abbrev im_N : Nat := 135
