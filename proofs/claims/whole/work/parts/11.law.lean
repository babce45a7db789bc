/-- the script: n ints xs, at the address b -/
def ScrX (cc : ByteArray) (V : Vt) (b n : Nat) (xs : Nat → Int32) : Prop :=
  (∀ {pc : Nat} {L : List (Option Value)} {st : List Value} {w : Mm} {i : Int32}, decode cc pc = .ok (.iaload, 1) → inb i n = true → V (pc + 1) L (.int (xs (ix i)) :: st) w → V pc L (.int i :: .ref b :: st) w) ∧
  (∀ {pc : Nat} {L : List (Option Value)} {st : List Value} {w : Mm}, decode cc pc = .ok (.arraylength, 1) → V (pc + 1) L (.int (nI n) :: st) w → V pc L (.ref b :: st) w)
noncomputable def l_L_law_18 (n : Nat) (xs : Nat → Int32) (s : Int32 × Mm) : Option ((Int32 × Mm) ⊕ (Nat × Mm)) := if ((nI n) - (6 : Int32)) < s.1 then (some (.inr (0, s.2))) else (if inb s.1 n = true then (mg (if ((xs (ix s.1)) &&& (31 : Int32)) = 0 then (if inb (s.1 + (1 : Int32)) n = true then (if inb (s.1 + (2 : Int32)) n = true then (if inb (s.1 + (3 : Int32)) n = true then (onL s.2 (Option.bind (f_X11_word (xs (ix (s.1 + (1 : Int32)))) (xs (ix (s.1 + (2 : Int32)))) (xs (ix (s.1 + (3 : Int32)))) s.2) (fun p9 => onL p9.2 (Option.bind (f_X12_word (xs (ix (s.1 + (1 : Int32)))) (xs (ix (s.1 + (2 : Int32)))) (xs (ix (s.1 + (3 : Int32)))) p9.2) (fun p11 => if p9.1 = p11.1 then (some (.inl p11.2)) else (some (.inr (.inr (1, p11.2))))))))) else none) else none) else none) else (if ((xs (ix s.1)) &&& (31 : Int32)) = 1 then (if inb (s.1 + (1 : Int32)) n = true then (if inb (s.1 + (2 : Int32)) n = true then (onL s.2 (Option.bind (f_X11_people (xs (ix (s.1 + (1 : Int32)))) (xs (ix (s.1 + (2 : Int32)))) s.2) (fun p17 => onL p17.2 (Option.bind (f_X12_people (xs (ix (s.1 + (1 : Int32)))) (xs (ix (s.1 + (2 : Int32)))) p17.2) (fun p19 => if p17.1 = p19.1 then (some (.inl p19.2)) else (some (.inr (.inr (2, p19.2))))))))) else none) else none) else (if ((xs (ix s.1)) &&& (31 : Int32)) = 2 then (if inb (s.1 + (1 : Int32)) n = true then (if inb (s.1 + (2 : Int32)) n = true then (if inb (s.1 + (3 : Int32)) n = true then (if inb (s.1 + (4 : Int32)) n = true then (onL s.2 (Option.bind (f_X11_want (xs (ix (s.1 + (1 : Int32)))) (xs (ix (s.1 + (2 : Int32)))) (xs (ix (s.1 + (3 : Int32)))) (xs (ix (s.1 + (4 : Int32)))) s.2) (fun p27 => onL p27.2 (Option.bind (f_X12_want (xs (ix (s.1 + (1 : Int32)))) (xs (ix (s.1 + (2 : Int32)))) (xs (ix (s.1 + (3 : Int32)))) (xs (ix (s.1 + (4 : Int32)))) p27.2) (fun p29 => if p27.1 = p29.1 then (some (.inl p29.2)) else (some (.inr (.inr (3, p29.2))))))))) else none) else none) else none) else none) else (if ((xs (ix s.1)) &&& (31 : Int32)) = 3 then (if inb (s.1 + (1 : Int32)) n = true then (if inb (s.1 + (2 : Int32)) n = true then (onL s.2 (Option.bind (f_X11_often (xs (ix (s.1 + (1 : Int32)))) (xs (ix (s.1 + (2 : Int32)))) s.2) (fun p35 => onL p35.2 (Option.bind (f_X12_often (xs (ix (s.1 + (1 : Int32)))) (xs (ix (s.1 + (2 : Int32)))) p35.2) (fun p37 => if p35.1 = p37.1 then (some (.inl p37.2)) else (some (.inr (.inr (4, p37.2))))))))) else none) else none) else (if ((xs (ix s.1)) &&& (31 : Int32)) = 4 then (if inb (s.1 + (1 : Int32)) n = true then (onL s.2 (Option.bind (f_X11_silence (xs (ix (s.1 + (1 : Int32)))) s.2) (fun p42 => onL p42.2 (Option.bind (f_X12_silence (xs (ix (s.1 + (1 : Int32)))) p42.2) (fun p44 => if p42.1 = p44.1 then (some (.inl p44.2)) else (some (.inr (.inr (5, p44.2))))))))) else none) else (if ((xs (ix s.1)) &&& (31 : Int32)) = 5 then (if inb (s.1 + (1 : Int32)) n = true then (if inb (s.1 + (2 : Int32)) n = true then (if inb (s.1 + (3 : Int32)) n = true then (if inb (s.1 + (4 : Int32)) n = true then (if inb (s.1 + (5 : Int32)) n = true then (onL s.2 (Option.bind (f_X11_feed (xs (ix (s.1 + (1 : Int32)))) (xs (ix (s.1 + (2 : Int32)))) (xs (ix (s.1 + (3 : Int32)))) (xs (ix (s.1 + (4 : Int32)))) (xs (ix (s.1 + (5 : Int32)))) s.2) (fun p53 => onL p53.2 (Option.bind (f_X12_feed (xs (ix (s.1 + (1 : Int32)))) (xs (ix (s.1 + (2 : Int32)))) (xs (ix (s.1 + (3 : Int32)))) (xs (ix (s.1 + (4 : Int32)))) (xs (ix (s.1 + (5 : Int32)))) p53.2) (fun p55 => if p53.1 = p55.1 then (some (.inl p55.2)) else (some (.inr (.inr (6, p55.2))))))))) else none) else none) else none) else none) else none) else (if ((xs (ix s.1)) &&& (31 : Int32)) = 6 then (if inb (s.1 + (1 : Int32)) n = true then (onL s.2 (Option.bind (f_X11_near (xs (ix (s.1 + (1 : Int32)))) s.2) (fun p60 => onL p60.2 (Option.bind (f_X12_near (xs (ix (s.1 + (1 : Int32)))) p60.2) (fun p62 => if p60.1 = p62.1 then (some (.inl p62.2)) else (some (.inr (.inr (7, p62.2))))))))) else none) else (if ((xs (ix s.1)) &&& (31 : Int32)) = 7 then (if inb (s.1 + (1 : Int32)) n = true then (if inb (s.1 + (2 : Int32)) n = true then (onL s.2 (Option.bind (f_X11_brief (xs (ix (s.1 + (1 : Int32)))) (xs (ix (s.1 + (2 : Int32)))) s.2) (fun p68 => onL p68.2 (Option.bind (f_X12_brief (xs (ix (s.1 + (1 : Int32)))) (xs (ix (s.1 + (2 : Int32)))) p68.2) (fun p70 => if p68.1 = p70.1 then (some (.inl p70.2)) else (some (.inr (.inr (8, p70.2))))))))) else none) else none) else (if ((xs (ix s.1)) &&& (31 : Int32)) = 8 then (if inb (s.1 + (1 : Int32)) n = true then (if inb (s.1 + (2 : Int32)) n = true then (if inb (s.1 + (3 : Int32)) n = true then (onL s.2 (Option.bind (f_X11_how (xs (ix (s.1 + (1 : Int32)))) (xs (ix (s.1 + (2 : Int32)))) (xs (ix (s.1 + (3 : Int32)))) s.2) (fun p77 => onL p77.2 (Option.bind (f_X12_how (xs (ix (s.1 + (1 : Int32)))) (xs (ix (s.1 + (2 : Int32)))) (xs (ix (s.1 + (3 : Int32)))) p77.2) (fun p79 => if p77.1 = p79.1 then (some (.inl p79.2)) else (some (.inr (.inr (9, p79.2))))))))) else none) else none) else none) else (if ((xs (ix s.1)) &&& (31 : Int32)) = 9 then (if inb (s.1 + (1 : Int32)) n = true then (if inb (s.1 + (2 : Int32)) n = true then (if inb (s.1 + (3 : Int32)) n = true then (onL s.2 (Option.bind (f_X11_sayable (xs (ix (s.1 + (1 : Int32)))) (xs (ix (s.1 + (2 : Int32)))) (xs (ix (s.1 + (3 : Int32)))) s.2) (fun p86 => onL p86.2 (Option.bind (f_X12_sayable (xs (ix (s.1 + (1 : Int32)))) (xs (ix (s.1 + (2 : Int32)))) (xs (ix (s.1 + (3 : Int32)))) p86.2) (fun p88 => if p86.1 = p88.1 then (some (.inl p88.2)) else (some (.inr (.inr (10, p88.2))))))))) else none) else none) else none) else (if ((xs (ix s.1)) &&& (31 : Int32)) = 10 then (if inb (s.1 + (1 : Int32)) n = true then (if inb (s.1 + (2 : Int32)) n = true then (onL s.2 (Option.bind (f_X11_talk (xs (ix (s.1 + (1 : Int32)))) (xs (ix (s.1 + (2 : Int32)))) s.2) (fun p94 => onL p94.2 (Option.bind (f_X12_talk (xs (ix (s.1 + (1 : Int32)))) (xs (ix (s.1 + (2 : Int32)))) p94.2) (fun p96 => if p94.1 = p96.1 then (some (.inl p96.2)) else (some (.inr (.inr (11, p96.2))))))))) else none) else none) else (if ((xs (ix s.1)) &&& (31 : Int32)) = 11 then (if inb (s.1 + (1 : Int32)) n = true then (onL s.2 (Option.bind (f_X11_musts (xs (ix (s.1 + (1 : Int32)))) s.2) (fun p101 => onL p101.2 (Option.bind (f_X12_musts (xs (ix (s.1 + (1 : Int32)))) p101.2) (fun p103 => if p101.1 = p103.1 then (some (.inl p103.2)) else (some (.inr (.inr (12, p103.2))))))))) else none) else (if ((xs (ix s.1)) &&& (31 : Int32)) = 12 then (if inb (s.1 + (1 : Int32)) n = true then (onL s.2 (Option.bind (f_X11_strike (xs (ix (s.1 + (1 : Int32)))) s.2) (fun p108 => onL p108.2 (Option.bind (f_X12_strike (xs (ix (s.1 + (1 : Int32)))) p108.2) (fun p110 => if p108.1 = p110.1 then (some (.inl p110.2)) else (some (.inr (.inr (13, p110.2))))))))) else none) else (if ((xs (ix s.1)) &&& (31 : Int32)) = 13 then (if inb (s.1 + (1 : Int32)) n = true then (onL s.2 (Option.bind (f_X11_costs (xs (ix (s.1 + (1 : Int32)))) s.2) (fun p115 => onL p115.2 (Option.bind (f_X12_costs (xs (ix (s.1 + (1 : Int32)))) p115.2) (fun p117 => if p115.1 = p117.1 then (some (.inl p117.2)) else (some (.inr (.inr (14, p117.2))))))))) else none) else (if ((xs (ix s.1)) &&& (31 : Int32)) = 14 then (onL s.2 (Option.bind (f_X11_least s.2) (fun p121 => onL p121.2 (Option.bind (f_X12_least p121.2) (fun p123 => if p121.1 = p123.1 then (some (.inl p123.2)) else (some (.inr (.inr (15, p123.2))))))))) else (if ((xs (ix s.1)) &&& (31 : Int32)) = 15 then (if inb (s.1 + (1 : Int32)) n = true then (onL s.2 (Option.bind (f_X11_spite (xs (ix (s.1 + (1 : Int32)))) s.2) (fun p128 => onL p128.2 (Option.bind (f_X12_spite (xs (ix (s.1 + (1 : Int32)))) p128.2) (fun p130 => if p128.1 = p130.1 then (some (.inl p130.2)) else (some (.inr (.inr (16, p130.2))))))))) else none) else (if ((xs (ix s.1)) &&& (31 : Int32)) = 16 then (if inb (s.1 + (1 : Int32)) n = true then (onL s.2 (Option.bind (f_X11_vote (xs (ix (s.1 + (1 : Int32)))) s.2) (fun p135 => onL p135.2 (Option.bind (f_X12_vote (xs (ix (s.1 + (1 : Int32)))) p135.2) (fun p137 => if p135.1 = p137.1 then (some (.inl p137.2)) else (some (.inr (.inr (17, p137.2))))))))) else none) else (if ((xs (ix s.1)) &&& (31 : Int32)) = 17 then (if inb (s.1 + (1 : Int32)) n = true then (if inb (s.1 + (2 : Int32)) n = true then (onL s.2 (Option.bind (f_X11_order (xs (ix (s.1 + (1 : Int32)))) (xs (ix (s.1 + (2 : Int32)))) s.2) (fun p143 => onL p143.2 (Option.bind (f_X12_order (xs (ix (s.1 + (1 : Int32)))) (xs (ix (s.1 + (2 : Int32)))) p143.2) (fun p145 => if p143.1 = p145.1 then (some (.inl p145.2)) else (some (.inr (.inr (18, p145.2))))))))) else none) else none) else (if ((xs (ix s.1)) &&& (31 : Int32)) = 18 then (if inb (s.1 + (1 : Int32)) n = true then (onL s.2 (Option.bind (f_X11_gap (xs (ix (s.1 + (1 : Int32)))) s.2) (fun p150 => onL p150.2 (Option.bind (f_X12_gap (xs (ix (s.1 + (1 : Int32)))) p150.2) (fun p152 => if p150.1 = p152.1 then (some (.inl p152.2)) else (some (.inr (.inr (19, p152.2))))))))) else none) else (if ((xs (ix s.1)) &&& (31 : Int32)) = 19 then (if inb (s.1 + (1 : Int32)) n = true then (if inb (s.1 + (2 : Int32)) n = true then (onL s.2 (Option.bind (f_X11_row (xs (ix (s.1 + (1 : Int32)))) (xs (ix (s.1 + (2 : Int32)))) s.2) (fun p158 => onL p158.2 (Option.bind (f_X12_row (xs (ix (s.1 + (1 : Int32)))) (xs (ix (s.1 + (2 : Int32)))) p158.2) (fun p160 => if p158.1 = p160.1 then (some (.inl p160.2)) else (some (.inr (.inr (20, p160.2))))))))) else none) else none) else (if ((xs (ix s.1)) &&& (31 : Int32)) = 20 then (onL s.2 (Option.bind (f_X11_till s.2) (fun p164 => onL p164.2 (Option.bind (f_X12_till p164.2) (fun p166 => if p164.1 = p166.1 then (some (.inl p166.2)) else (some (.inr (.inr (21, p166.2))))))))) else (if ((xs (ix s.1)) &&& (31 : Int32)) = 21 then (if inb (s.1 + (1 : Int32)) n = true then (if inb (s.1 + (2 : Int32)) n = true then (onL s.2 (Option.bind (f_X11_kept (xs (ix (s.1 + (1 : Int32)))) (xs (ix (s.1 + (2 : Int32)))) s.2) (fun p172 => onL p172.2 (Option.bind (f_X12_kept (xs (ix (s.1 + (1 : Int32)))) (xs (ix (s.1 + (2 : Int32)))) p172.2) (fun p174 => if p172.1 = p174.1 then (some (.inl p174.2)) else (some (.inr (.inr (22, p174.2))))))))) else none) else none) else (if ((xs (ix s.1)) &&& (31 : Int32)) = 22 then (if inb (s.1 + (1 : Int32)) n = true then (onL s.2 (Option.bind (f_X11_back (xs (ix (s.1 + (1 : Int32)))) s.2) (fun p179 => onL p179.2 (Option.bind (f_X12_back (xs (ix (s.1 + (1 : Int32)))) p179.2) (fun p181 => if p179.1 = p181.1 then (some (.inl p181.2)) else (some (.inr (.inr (23, p181.2))))))))) else none) else (if ((xs (ix s.1)) &&& (31 : Int32)) = 23 then (if inb (s.1 + (1 : Int32)) n = true then (onL s.2 (Option.bind (f_X11_told (xs (ix (s.1 + (1 : Int32)))) s.2) (fun p186 => onL p186.2 (Option.bind (f_X12_told (xs (ix (s.1 + (1 : Int32)))) p186.2) (fun p188 => if p186.1 = p188.1 then (some (.inl p188.2)) else (some (.inr (.inr (24, p188.2))))))))) else none) else (if ((xs (ix s.1)) &&& (31 : Int32)) = 24 then (if inb (s.1 + (1 : Int32)) n = true then (onL s.2 (Option.bind (f_X11_leads (xs (ix (s.1 + (1 : Int32)))) s.2) (fun p193 => onL p193.2 (Option.bind (f_X12_leads (xs (ix (s.1 + (1 : Int32)))) p193.2) (fun p195 => if p193.1 = p195.1 then (some (.inl p195.2)) else (some (.inr (.inr (25, p195.2))))))))) else none) else (if ((xs (ix s.1)) &&& (31 : Int32)) = 25 then (onL s.2 (Option.bind (f_X11_round s.2) (fun p199 => onL p199.2 (Option.bind (f_X12_round p199.2) (fun p201 => if p199.1 = p201.1 then (some (.inl p201.2)) else (some (.inr (.inr (26, p201.2))))))))) else (if ((xs (ix s.1)) &&& (31 : Int32)) = 26 then (onL s.2 (Option.bind (f_X11_fewest s.2) (fun p205 => onL p205.2 (Option.bind (f_X12_fewest p205.2) (fun p207 => if p205.1 = p207.1 then (some (.inl p207.2)) else (some (.inr (.inr (27, p207.2))))))))) else (if ((xs (ix s.1)) &&& (31 : Int32)) = 27 then (if inb (s.1 + (1 : Int32)) n = true then (if inb (s.1 + (2 : Int32)) n = true then (onL s.2 (Option.bind (f_X11_law (xs (ix (s.1 + (1 : Int32)))) (xs (ix (s.1 + (2 : Int32)))) s.2) (fun p213 => onL p213.2 (Option.bind (f_X12_law (xs (ix (s.1 + (1 : Int32)))) (xs (ix (s.1 + (2 : Int32)))) p213.2) (fun p215 => if p213.1 = p215.1 then (some (.inl p215.2)) else (some (.inr (.inr (28, p215.2))))))))) else none) else none) else (if ((xs (ix s.1)) &&& (31 : Int32)) = 28 then (if inb (s.1 + (1 : Int32)) n = true then (if inb (s.1 + (2 : Int32)) n = true then (onL s.2 (Option.bind (f_X11_lawIs (xs (ix (s.1 + (1 : Int32)))) (xs (ix (s.1 + (2 : Int32)))) s.2) (fun p221 => onL p221.2 (Option.bind (f_X12_lawIs (xs (ix (s.1 + (1 : Int32)))) (xs (ix (s.1 + (2 : Int32)))) p221.2) (fun p223 => if p221.1 = p223.1 then (some (.inl p223.2)) else (some (.inr (.inr (29, p223.2))))))))) else none) else none) else (if ((xs (ix s.1)) &&& (31 : Int32)) = 29 then (if inb (s.1 + (1 : Int32)) n = true then (if inb (s.1 + (2 : Int32)) n = true then (onL s.2 (Option.bind (f_X11_madeUp (xs (ix (s.1 + (1 : Int32)))) (xs (ix (s.1 + (2 : Int32)))) s.2) (fun p229 => onL p229.2 (Option.bind (f_X12_madeUp (xs (ix (s.1 + (1 : Int32)))) (xs (ix (s.1 + (2 : Int32)))) p229.2) (fun p231 => if p229.1 = p231.1 then (some (.inl p231.2)) else (some (.inr (.inr (30, p231.2))))))))) else none) else none) else (if ((xs (ix s.1)) &&& (31 : Int32)) = 30 then (if inb (s.1 + (1 : Int32)) n = true then (if inb (s.1 + (2 : Int32)) n = true then (onL s.2 (Option.bind (f_X11_check (xs (ix (s.1 + (1 : Int32)))) (xs (ix (s.1 + (2 : Int32)))) s.2) (fun p237 => onL p237.2 (Option.bind (f_X12_check (xs (ix (s.1 + (1 : Int32)))) (xs (ix (s.1 + (2 : Int32)))) p237.2) (fun p239 => if p237.1 = p239.1 then (some (.inl p239.2)) else (some (.inr (.inr (31, p239.2))))))))) else none) else none) else (if ((xs (ix s.1)) &&& (31 : Int32)) = 31 then (if inb (s.1 + (1 : Int32)) n = true then (onL s.2 (Option.bind (f_X11_count (xs (ix (s.1 + (1 : Int32)))) s.2) (fun p244 => Option.bind (f_X12_count (xs (ix (s.1 + (1 : Int32)))) s.2) (fun p245 => if p244 = p245 then (some (.inl s.2)) else (some (.inr (.inr (32, s.2)))))))) else none) else (some (.inl s.2)))))))))))))))))))))))))))))))))) (fun p3 => some (.inl (s.1 + (6 : Int32), p3)))) else none)
noncomputable def f_L_law (n : Nat) (xs : Nat → Int32) (w : Mm) : Option (Int32 × Mm) := Option.bind (alq w 11 10) (fun p1 => Option.bind (f_X11_init p1.1 p1.2) (fun p2 => if p1.1 = 0 then (Option.bind (alq p2 12 64) (fun p4 => Option.bind (f_X12_init p4.1 p4.2) (fun p5 => if p4.1 = 47 then (Option.bind (wh (l_L_law_18 n xs) FUEL ((0 : Int32), p5)) (fun p7 => if p7.1 = 0 then (some ((1 : Int32), p7.2)) else (if p7.1 = 1 then (some ((0 : Int32), p7.2)) else (if p7.1 = 2 then (some ((0 : Int32), p7.2)) else (if p7.1 = 3 then (some ((0 : Int32), p7.2)) else (if p7.1 = 4 then (some ((0 : Int32), p7.2)) else (if p7.1 = 5 then (some ((0 : Int32), p7.2)) else (if p7.1 = 6 then (some ((0 : Int32), p7.2)) else (if p7.1 = 7 then (some ((0 : Int32), p7.2)) else (if p7.1 = 8 then (some ((0 : Int32), p7.2)) else (if p7.1 = 9 then (some ((0 : Int32), p7.2)) else (if p7.1 = 10 then (some ((0 : Int32), p7.2)) else (if p7.1 = 11 then (some ((0 : Int32), p7.2)) else (if p7.1 = 12 then (some ((0 : Int32), p7.2)) else (if p7.1 = 13 then (some ((0 : Int32), p7.2)) else (if p7.1 = 14 then (some ((0 : Int32), p7.2)) else (if p7.1 = 15 then (some ((0 : Int32), p7.2)) else (if p7.1 = 16 then (some ((0 : Int32), p7.2)) else (if p7.1 = 17 then (some ((0 : Int32), p7.2)) else (if p7.1 = 18 then (some ((0 : Int32), p7.2)) else (if p7.1 = 19 then (some ((0 : Int32), p7.2)) else (if p7.1 = 20 then (some ((0 : Int32), p7.2)) else (if p7.1 = 21 then (some ((0 : Int32), p7.2)) else (if p7.1 = 22 then (some ((0 : Int32), p7.2)) else (if p7.1 = 23 then (some ((0 : Int32), p7.2)) else (if p7.1 = 24 then (some ((0 : Int32), p7.2)) else (if p7.1 = 25 then (some ((0 : Int32), p7.2)) else (if p7.1 = 26 then (some ((0 : Int32), p7.2)) else (if p7.1 = 27 then (some ((0 : Int32), p7.2)) else (if p7.1 = 28 then (some ((0 : Int32), p7.2)) else (if p7.1 = 29 then (some ((0 : Int32), p7.2)) else (if p7.1 = 30 then (some ((0 : Int32), p7.2)) else (if p7.1 = 31 then (some ((0 : Int32), p7.2)) else (some ((0 : Int32), p7.2))))))))))))))))))))))))))))))))))) else none))) else none))
set_option maxHeartbeats 4000000 in
set_option maxRecDepth 100000 in
theorem t_l_L_law_18 {g : Gx} {V : Vt} {d : Nat} (S : MachB g yL_law cL_law 4 (d + 204) V) {n : Nat} {xs : Nat → Int32} {b : Nat} (hX : ScrX cL_law V b n xs) (s : Int32 × Mm) (e : (Int32 × Mm) ⊕ (Nat × Mm)) (h : l_L_law_18 n xs s = some e) (hC : ∀ s2, e = .inl s2 → V 18 [some (.ref b), some (rf g 0), some (rf g 47), some (.int s2.1)] [] s2.2) (hE : ∀ x, e = .inr x → if x.1 = 0 then V 1126 [none, none, none, none] [] x.2 else (if x.1 = 1 then V 217 [none, none, none, none] [] x.2 else (if x.1 = 2 then V 250 [none, none, none, none] [] x.2 else (if x.1 = 3 then V 303 [none, none, none, none] [] x.2 else (if x.1 = 4 then V 336 [none, none, none, none] [] x.2 else (if x.1 = 5 then V 359 [none, none, none, none] [] x.2 else (if x.1 = 6 then V 422 [none, none, none, none] [] x.2 else (if x.1 = 7 then V 445 [none, none, none, none] [] x.2 else (if x.1 = 8 then V 478 [none, none, none, none] [] x.2 else (if x.1 = 9 then V 521 [none, none, none, none] [] x.2 else (if x.1 = 10 then V 564 [none, none, none, none] [] x.2 else (if x.1 = 11 then V 598 [none, none, none, none] [] x.2 else (if x.1 = 12 then V 621 [none, none, none, none] [] x.2 else (if x.1 = 13 then V 644 [none, none, none, none] [] x.2 else (if x.1 = 14 then V 668 [none, none, none, none] [] x.2 else (if x.1 = 15 then V 681 [none, none, none, none] [] x.2 else (if x.1 = 16 then V 704 [none, none, none, none] [] x.2 else (if x.1 = 17 then V 727 [none, none, none, none] [] x.2 else (if x.1 = 18 then V 761 [none, none, none, none] [] x.2 else (if x.1 = 19 then V 785 [none, none, none, none] [] x.2 else (if x.1 = 20 then V 819 [none, none, none, none] [] x.2 else (if x.1 = 21 then V 832 [none, none, none, none] [] x.2 else (if x.1 = 22 then V 866 [none, none, none, none] [] x.2 else (if x.1 = 23 then V 890 [none, none, none, none] [] x.2 else (if x.1 = 24 then V 913 [none, none, none, none] [] x.2 else (if x.1 = 25 then V 936 [none, none, none, none] [] x.2 else (if x.1 = 26 then V 949 [none, none, none, none] [] x.2 else (if x.1 = 27 then V 962 [none, none, none, none] [] x.2 else (if x.1 = 28 then V 995 [none, none, none, none] [] x.2 else (if x.1 = 29 then V 1028 [none, none, none, none] [] x.2 else (if x.1 = 30 then V 1062 [none, none, none, none] [] x.2 else (if x.1 = 31 then V 1095 [none, none, none, none] [] x.2 else (V 1118 [none, none, none, none] [] x.2))))))))))))))))))))))))))))))))) : V 18 [some (.ref b), some (rf g 0), some (rf g 47), some (.int s.1)] [] s.2 := by
  unfold l_L_law_18 at h
  refine i_iload_n S dL_law_18 rfl ?_
  refine i_aload_n S dL_law_19 rfl ?_
  refine hX.2 dL_law_20 ?_
  refine i_bipush (v := 6) S dL_law_21 bp_6 ?_
  refine i_isub S dL_law_23 ?_
  refine i_icmp_gt (tgt := 1126) S dL_law_24 (by decide) (fun q1 => ?_) (fun q1 => ?_)
  · replace h := (if_pos q1).symm.trans h
    refine i_mask (L1 := [none, none, none, none]) S [false, false, false, false] rfl ?_
    have hz := hE _ (Option.some.inj h).symm
    exact hz
  · replace h := (if_neg q1).symm.trans h
    refine i_aload_n S dL_law_27 rfl ?_
    refine i_iload_n S dL_law_28 rfl ?_
    obtain ⟨hi2, h⟩ := gd h
    refine hX.1 dL_law_29 hi2 ?_
    refine i_bipush (v := 31) S dL_law_30 bp_31 ?_
    refine i_iand S dL_law_32 ?_
    obtain ⟨s3, e3, hm3, ho3⟩ := mgn h
    have hj3 : ∀ p3, s3 = .inl p3 → V 1120 [some (.ref b), some (rf g 0), some (rf g 47), some (.int s.1)] [] p3 := by
      intro p3 ep3
      have h := hm3 p3 ep3
      refine i_iinc (L1 := [some (.ref b), some (rf g 0), some (rf g 47), some (.int (s.1 + (6 : Int32)))]) S dL_law_1120 rfl ic_6 (by decide) rfl ?_
      refine i_goto (tgt := 18) S dL_law_1123 (by decide) ?_
      have hz := hC _ (Option.some.inj h).symm
      exact hz
    replace h := e3
    clear e3
    by_cases q4 : ((xs (ix s.1)) &&& (31 : Int32)) = 0
    · replace h := (if_pos q4).symm.trans h
      refine i_tswIn (tgt := 176) (off := 143) S dL_law_33 (by rw [q4]; decide) (by rw [q4]; decide) (by rw [q4]; decide) (by decide) ?_
      refine i_aload_n S dL_law_176 rfl ?_
      refine i_aload_n S dL_law_177 rfl ?_
      refine i_iload_n S dL_law_178 rfl ?_
      refine i_iconst (v := 1) S dL_law_179 ic_1 ?_
      refine i_iadd S dL_law_180 ?_
      obtain ⟨hi5, h⟩ := gd h
      refine hX.1 dL_law_181 hi5 ?_
      refine i_aload_n S dL_law_182 rfl ?_
      refine i_iload_n S dL_law_183 rfl ?_
      refine i_iconst (v := 2) S dL_law_184 ic_2 ?_
      refine i_iadd S dL_law_185 ?_
      obtain ⟨hi6, h⟩ := gd h
      refine hX.1 dL_law_186 hi6 ?_
      refine i_aload_n S dL_law_187 rfl ?_
      refine i_iload_n S dL_law_188 rfl ?_
      refine i_iconst (v := 3) S dL_law_189 ic_3 ?_
      refine i_iadd S dL_law_190 ?_
      obtain ⟨hi7, h⟩ := gd h
      refine hX.1 dL_law_191 hi7 ?_
      obtain ⟨hL8, h⟩ := onLn h
      obtain ⟨p9, e9, h⟩ := bn h
      refine i_callV (As := [.int (xs (ix (s.1 + (1 : Int32)))), .int (xs (ix (s.1 + (2 : Int32)))), .int (xs (ix (s.1 + (3 : Int32))))]) (st1 := [.int p9.1]) S (c_X11_word g (d + 202) hL8 e9) mw_X11_word lk_L_13 im_X11_word se_X11_word ci_11.1 ci_11.2.1 (k0 hL8) dL_law_192 rfl rfl (Nat.le_of_ble_eq_true rfl) rfl ?_
      refine i_aload_n S dL_law_195 rfl ?_
      refine i_aload_n S dL_law_196 rfl ?_
      refine i_iload_n S dL_law_197 rfl ?_
      refine i_iconst (v := 1) S dL_law_198 ic_1 ?_
      refine i_iadd S dL_law_199 ?_
      refine hX.1 dL_law_200 hi5 ?_
      refine i_aload_n S dL_law_201 rfl ?_
      refine i_iload_n S dL_law_202 rfl ?_
      refine i_iconst (v := 2) S dL_law_203 ic_2 ?_
      refine i_iadd S dL_law_204 ?_
      refine hX.1 dL_law_205 hi6 ?_
      refine i_aload_n S dL_law_206 rfl ?_
      refine i_iload_n S dL_law_207 rfl ?_
      refine i_iconst (v := 3) S dL_law_208 ic_3 ?_
      refine i_iadd S dL_law_209 ?_
      refine hX.1 dL_law_210 hi7 ?_
      obtain ⟨hL10, h⟩ := onLn h
      obtain ⟨p11, e11, h⟩ := bn h
      refine i_callV (As := [.int (xs (ix (s.1 + (1 : Int32)))), .int (xs (ix (s.1 + (2 : Int32)))), .int (xs (ix (s.1 + (3 : Int32))))]) (st1 := [.int p11.1, .int p9.1]) S (c_X12_word g (d + 201) hL10 e11) mw_X12_word lk_L_17 im_X12_word se_X12_word ci_12.1 ci_12.2.1 (k47 hL10) dL_law_211 rfl rfl (Nat.le_of_ble_eq_true rfl) rfl ?_
      refine i_icmp_eq (tgt := 1120) S dL_law_214 (by decide) (fun q12 => ?_) (fun q12 => ?_)
      · replace h := (if_pos q12).symm.trans h
        have hz := hj3 _ (Option.some.inj h).symm
        exact hz
      · replace h := (if_neg q12).symm.trans h
        replace h := ho3 _ (Option.some.inj h).symm
        refine i_mask (L1 := [none, none, none, none]) S [false, false, false, false] rfl ?_
        have hz := hE _ (Option.some.inj h).symm
        exact hz
    · replace h := (if_neg q4).symm.trans h
      by_cases q13 : ((xs (ix s.1)) &&& (31 : Int32)) = 1
      · replace h := (if_pos q13).symm.trans h
        refine i_tswIn (tgt := 219) (off := 186) S dL_law_33 (by rw [q13]; decide) (by rw [q13]; decide) (by rw [q13]; decide) (by decide) ?_
        refine i_aload_n S dL_law_219 rfl ?_
        refine i_aload_n S dL_law_220 rfl ?_
        refine i_iload_n S dL_law_221 rfl ?_
        refine i_iconst (v := 1) S dL_law_222 ic_1 ?_
        refine i_iadd S dL_law_223 ?_
        obtain ⟨hi14, h⟩ := gd h
        refine hX.1 dL_law_224 hi14 ?_
        refine i_aload_n S dL_law_225 rfl ?_
        refine i_iload_n S dL_law_226 rfl ?_
        refine i_iconst (v := 2) S dL_law_227 ic_2 ?_
        refine i_iadd S dL_law_228 ?_
        obtain ⟨hi15, h⟩ := gd h
        refine hX.1 dL_law_229 hi15 ?_
        obtain ⟨hL16, h⟩ := onLn h
        obtain ⟨p17, e17, h⟩ := bn h
        refine i_callV (As := [.int (xs (ix (s.1 + (1 : Int32)))), .int (xs (ix (s.1 + (2 : Int32))))]) (st1 := [.int p17.1]) S (c_X11_people g (d + 202) hL16 e17) mw_X11_people lk_L_18 im_X11_people se_X11_people ci_11.1 ci_11.2.1 (k0 hL16) dL_law_230 rfl rfl (Nat.le_of_ble_eq_true rfl) rfl ?_
        refine i_aload_n S dL_law_233 rfl ?_
        refine i_aload_n S dL_law_234 rfl ?_
        refine i_iload_n S dL_law_235 rfl ?_
        refine i_iconst (v := 1) S dL_law_236 ic_1 ?_
        refine i_iadd S dL_law_237 ?_
        refine hX.1 dL_law_238 hi14 ?_
        refine i_aload_n S dL_law_239 rfl ?_
        refine i_iload_n S dL_law_240 rfl ?_
        refine i_iconst (v := 2) S dL_law_241 ic_2 ?_
        refine i_iadd S dL_law_242 ?_
        refine hX.1 dL_law_243 hi15 ?_
        obtain ⟨hL18, h⟩ := onLn h
        obtain ⟨p19, e19, h⟩ := bn h
        refine i_callV (As := [.int (xs (ix (s.1 + (1 : Int32)))), .int (xs (ix (s.1 + (2 : Int32))))]) (st1 := [.int p19.1, .int p17.1]) S (c_X12_people g (d + 201) hL18 e19) mw_X12_people lk_L_22 im_X12_people se_X12_people ci_12.1 ci_12.2.1 (k47 hL18) dL_law_244 rfl rfl (Nat.le_of_ble_eq_true rfl) rfl ?_
        refine i_icmp_eq (tgt := 1120) S dL_law_247 (by decide) (fun q20 => ?_) (fun q20 => ?_)
        · replace h := (if_pos q20).symm.trans h
          have hz := hj3 _ (Option.some.inj h).symm
          exact hz
        · replace h := (if_neg q20).symm.trans h
          replace h := ho3 _ (Option.some.inj h).symm
          refine i_mask (L1 := [none, none, none, none]) S [false, false, false, false] rfl ?_
          have hz := hE _ (Option.some.inj h).symm
          exact hz
      · replace h := (if_neg q13).symm.trans h
        by_cases q21 : ((xs (ix s.1)) &&& (31 : Int32)) = 2
        · replace h := (if_pos q21).symm.trans h
          refine i_tswIn (tgt := 252) (off := 219) S dL_law_33 (by rw [q21]; decide) (by rw [q21]; decide) (by rw [q21]; decide) (by decide) ?_
          refine i_aload_n S dL_law_252 rfl ?_
          refine i_aload_n S dL_law_253 rfl ?_
          refine i_iload_n S dL_law_254 rfl ?_
          refine i_iconst (v := 1) S dL_law_255 ic_1 ?_
          refine i_iadd S dL_law_256 ?_
          obtain ⟨hi22, h⟩ := gd h
          refine hX.1 dL_law_257 hi22 ?_
          refine i_aload_n S dL_law_258 rfl ?_
          refine i_iload_n S dL_law_259 rfl ?_
          refine i_iconst (v := 2) S dL_law_260 ic_2 ?_
          refine i_iadd S dL_law_261 ?_
          obtain ⟨hi23, h⟩ := gd h
          refine hX.1 dL_law_262 hi23 ?_
          refine i_aload_n S dL_law_263 rfl ?_
          refine i_iload_n S dL_law_264 rfl ?_
          refine i_iconst (v := 3) S dL_law_265 ic_3 ?_
          refine i_iadd S dL_law_266 ?_
          obtain ⟨hi24, h⟩ := gd h
          refine hX.1 dL_law_267 hi24 ?_
          refine i_aload_n S dL_law_268 rfl ?_
          refine i_iload_n S dL_law_269 rfl ?_
          refine i_iconst (v := 4) S dL_law_270 ic_4 ?_
          refine i_iadd S dL_law_271 ?_
          obtain ⟨hi25, h⟩ := gd h
          refine hX.1 dL_law_272 hi25 ?_
          obtain ⟨hL26, h⟩ := onLn h
          obtain ⟨p27, e27, h⟩ := bn h
          refine i_callV (As := [.int (xs (ix (s.1 + (1 : Int32)))), .int (xs (ix (s.1 + (2 : Int32)))), .int (xs (ix (s.1 + (3 : Int32)))), .int (xs (ix (s.1 + (4 : Int32))))]) (st1 := [.int p27.1]) S (c_X11_want g (d + 202) hL26 e27) mw_X11_want lk_L_23 im_X11_want se_X11_want ci_11.1 ci_11.2.1 (k0 hL26) dL_law_273 rfl rfl (Nat.le_of_ble_eq_true rfl) rfl ?_
          refine i_aload_n S dL_law_276 rfl ?_
          refine i_aload_n S dL_law_277 rfl ?_
          refine i_iload_n S dL_law_278 rfl ?_
          refine i_iconst (v := 1) S dL_law_279 ic_1 ?_
          refine i_iadd S dL_law_280 ?_
          refine hX.1 dL_law_281 hi22 ?_
          refine i_aload_n S dL_law_282 rfl ?_
          refine i_iload_n S dL_law_283 rfl ?_
          refine i_iconst (v := 2) S dL_law_284 ic_2 ?_
          refine i_iadd S dL_law_285 ?_
          refine hX.1 dL_law_286 hi23 ?_
          refine i_aload_n S dL_law_287 rfl ?_
          refine i_iload_n S dL_law_288 rfl ?_
          refine i_iconst (v := 3) S dL_law_289 ic_3 ?_
          refine i_iadd S dL_law_290 ?_
          refine hX.1 dL_law_291 hi24 ?_
          refine i_aload_n S dL_law_292 rfl ?_
          refine i_iload_n S dL_law_293 rfl ?_
          refine i_iconst (v := 4) S dL_law_294 ic_4 ?_
          refine i_iadd S dL_law_295 ?_
          refine hX.1 dL_law_296 hi25 ?_
          obtain ⟨hL28, h⟩ := onLn h
          obtain ⟨p29, e29, h⟩ := bn h
          refine i_callV (As := [.int (xs (ix (s.1 + (1 : Int32)))), .int (xs (ix (s.1 + (2 : Int32)))), .int (xs (ix (s.1 + (3 : Int32)))), .int (xs (ix (s.1 + (4 : Int32))))]) (st1 := [.int p29.1, .int p27.1]) S (c_X12_want g (d + 201) hL28 e29) mw_X12_want lk_L_27 im_X12_want se_X12_want ci_12.1 ci_12.2.1 (k47 hL28) dL_law_297 rfl rfl (Nat.le_of_ble_eq_true rfl) rfl ?_
          refine i_icmp_eq (tgt := 1120) S dL_law_300 (by decide) (fun q30 => ?_) (fun q30 => ?_)
          · replace h := (if_pos q30).symm.trans h
            have hz := hj3 _ (Option.some.inj h).symm
            exact hz
          · replace h := (if_neg q30).symm.trans h
            replace h := ho3 _ (Option.some.inj h).symm
            refine i_mask (L1 := [none, none, none, none]) S [false, false, false, false] rfl ?_
            have hz := hE _ (Option.some.inj h).symm
            exact hz
        · replace h := (if_neg q21).symm.trans h
          by_cases q31 : ((xs (ix s.1)) &&& (31 : Int32)) = 3
          · replace h := (if_pos q31).symm.trans h
            refine i_tswIn (tgt := 305) (off := 272) S dL_law_33 (by rw [q31]; decide) (by rw [q31]; decide) (by rw [q31]; decide) (by decide) ?_
            refine i_aload_n S dL_law_305 rfl ?_
            refine i_aload_n S dL_law_306 rfl ?_
            refine i_iload_n S dL_law_307 rfl ?_
            refine i_iconst (v := 1) S dL_law_308 ic_1 ?_
            refine i_iadd S dL_law_309 ?_
            obtain ⟨hi32, h⟩ := gd h
            refine hX.1 dL_law_310 hi32 ?_
            refine i_aload_n S dL_law_311 rfl ?_
            refine i_iload_n S dL_law_312 rfl ?_
            refine i_iconst (v := 2) S dL_law_313 ic_2 ?_
            refine i_iadd S dL_law_314 ?_
            obtain ⟨hi33, h⟩ := gd h
            refine hX.1 dL_law_315 hi33 ?_
            obtain ⟨hL34, h⟩ := onLn h
            obtain ⟨p35, e35, h⟩ := bn h
            refine i_callV (As := [.int (xs (ix (s.1 + (1 : Int32)))), .int (xs (ix (s.1 + (2 : Int32))))]) (st1 := [.int p35.1]) S (c_X11_often g (d + 202) hL34 e35) mw_X11_often lk_L_28 im_X11_often se_X11_often ci_11.1 ci_11.2.1 (k0 hL34) dL_law_316 rfl rfl (Nat.le_of_ble_eq_true rfl) rfl ?_
            refine i_aload_n S dL_law_319 rfl ?_
            refine i_aload_n S dL_law_320 rfl ?_
            refine i_iload_n S dL_law_321 rfl ?_
            refine i_iconst (v := 1) S dL_law_322 ic_1 ?_
            refine i_iadd S dL_law_323 ?_
            refine hX.1 dL_law_324 hi32 ?_
            refine i_aload_n S dL_law_325 rfl ?_
            refine i_iload_n S dL_law_326 rfl ?_
            refine i_iconst (v := 2) S dL_law_327 ic_2 ?_
            refine i_iadd S dL_law_328 ?_
            refine hX.1 dL_law_329 hi33 ?_
            obtain ⟨hL36, h⟩ := onLn h
            obtain ⟨p37, e37, h⟩ := bn h
            refine i_callV (As := [.int (xs (ix (s.1 + (1 : Int32)))), .int (xs (ix (s.1 + (2 : Int32))))]) (st1 := [.int p37.1, .int p35.1]) S (c_X12_often g (d + 202) hL36 e37) mw_X12_often lk_L_31 im_X12_often se_X12_often ci_12.1 ci_12.2.1 (k47 hL36) dL_law_330 rfl rfl (Nat.le_of_ble_eq_true rfl) rfl ?_
            refine i_icmp_eq (tgt := 1120) S dL_law_333 (by decide) (fun q38 => ?_) (fun q38 => ?_)
            · replace h := (if_pos q38).symm.trans h
              have hz := hj3 _ (Option.some.inj h).symm
              exact hz
            · replace h := (if_neg q38).symm.trans h
              replace h := ho3 _ (Option.some.inj h).symm
              refine i_mask (L1 := [none, none, none, none]) S [false, false, false, false] rfl ?_
              have hz := hE _ (Option.some.inj h).symm
              exact hz
          · replace h := (if_neg q31).symm.trans h
            by_cases q39 : ((xs (ix s.1)) &&& (31 : Int32)) = 4
            · replace h := (if_pos q39).symm.trans h
              refine i_tswIn (tgt := 338) (off := 305) S dL_law_33 (by rw [q39]; decide) (by rw [q39]; decide) (by rw [q39]; decide) (by decide) ?_
              refine i_aload_n S dL_law_338 rfl ?_
              refine i_aload_n S dL_law_339 rfl ?_
              refine i_iload_n S dL_law_340 rfl ?_
              refine i_iconst (v := 1) S dL_law_341 ic_1 ?_
              refine i_iadd S dL_law_342 ?_
              obtain ⟨hi40, h⟩ := gd h
              refine hX.1 dL_law_343 hi40 ?_
              obtain ⟨hL41, h⟩ := onLn h
              obtain ⟨p42, e42, h⟩ := bn h
              refine i_callV (As := [.int (xs (ix (s.1 + (1 : Int32))))]) (st1 := [.int p42.1]) S (c_X11_silence g (d + 202) hL41 e42) mw_X11_silence lk_L_32 im_X11_silence se_X11_silence ci_11.1 ci_11.2.1 (k0 hL41) dL_law_344 rfl rfl (Nat.le_of_ble_eq_true rfl) rfl ?_
              refine i_aload_n S dL_law_347 rfl ?_
              refine i_aload_n S dL_law_348 rfl ?_
              refine i_iload_n S dL_law_349 rfl ?_
              refine i_iconst (v := 1) S dL_law_350 ic_1 ?_
              refine i_iadd S dL_law_351 ?_
              refine hX.1 dL_law_352 hi40 ?_
              obtain ⟨hL43, h⟩ := onLn h
              obtain ⟨p44, e44, h⟩ := bn h
              refine i_callV (As := [.int (xs (ix (s.1 + (1 : Int32))))]) (st1 := [.int p44.1, .int p42.1]) S (c_X12_silence g (d + 202) hL43 e44) mw_X12_silence lk_L_36 im_X12_silence se_X12_silence ci_12.1 ci_12.2.1 (k47 hL43) dL_law_353 rfl rfl (Nat.le_of_ble_eq_true rfl) rfl ?_
              refine i_icmp_eq (tgt := 1120) S dL_law_356 (by decide) (fun q45 => ?_) (fun q45 => ?_)
              · replace h := (if_pos q45).symm.trans h
                have hz := hj3 _ (Option.some.inj h).symm
                exact hz
              · replace h := (if_neg q45).symm.trans h
                replace h := ho3 _ (Option.some.inj h).symm
                refine i_mask (L1 := [none, none, none, none]) S [false, false, false, false] rfl ?_
                have hz := hE _ (Option.some.inj h).symm
                exact hz
            · replace h := (if_neg q39).symm.trans h
              by_cases q46 : ((xs (ix s.1)) &&& (31 : Int32)) = 5
              · replace h := (if_pos q46).symm.trans h
                refine i_tswIn (tgt := 361) (off := 328) S dL_law_33 (by rw [q46]; decide) (by rw [q46]; decide) (by rw [q46]; decide) (by decide) ?_
                refine i_aload_n S dL_law_361 rfl ?_
                refine i_aload_n S dL_law_362 rfl ?_
                refine i_iload_n S dL_law_363 rfl ?_
                refine i_iconst (v := 1) S dL_law_364 ic_1 ?_
                refine i_iadd S dL_law_365 ?_
                obtain ⟨hi47, h⟩ := gd h
                refine hX.1 dL_law_366 hi47 ?_
                refine i_aload_n S dL_law_367 rfl ?_
                refine i_iload_n S dL_law_368 rfl ?_
                refine i_iconst (v := 2) S dL_law_369 ic_2 ?_
                refine i_iadd S dL_law_370 ?_
                obtain ⟨hi48, h⟩ := gd h
                refine hX.1 dL_law_371 hi48 ?_
                refine i_aload_n S dL_law_372 rfl ?_
                refine i_iload_n S dL_law_373 rfl ?_
                refine i_iconst (v := 3) S dL_law_374 ic_3 ?_
                refine i_iadd S dL_law_375 ?_
                obtain ⟨hi49, h⟩ := gd h
                refine hX.1 dL_law_376 hi49 ?_
                refine i_aload_n S dL_law_377 rfl ?_
                refine i_iload_n S dL_law_378 rfl ?_
                refine i_iconst (v := 4) S dL_law_379 ic_4 ?_
                refine i_iadd S dL_law_380 ?_
                obtain ⟨hi50, h⟩ := gd h
                refine hX.1 dL_law_381 hi50 ?_
                refine i_aload_n S dL_law_382 rfl ?_
                refine i_iload_n S dL_law_383 rfl ?_
                refine i_iconst (v := 5) S dL_law_384 ic_5 ?_
                refine i_iadd S dL_law_385 ?_
                obtain ⟨hi51, h⟩ := gd h
                refine hX.1 dL_law_386 hi51 ?_
                obtain ⟨hL52, h⟩ := onLn h
                obtain ⟨p53, e53, h⟩ := bn h
                refine i_callV (As := [.int (xs (ix (s.1 + (1 : Int32)))), .int (xs (ix (s.1 + (2 : Int32)))), .int (xs (ix (s.1 + (3 : Int32)))), .int (xs (ix (s.1 + (4 : Int32)))), .int (xs (ix (s.1 + (5 : Int32))))]) (st1 := [.int p53.1]) S (c_X11_feed g (d + 202) hL52 e53) mw_X11_feed lk_L_37 im_X11_feed se_X11_feed ci_11.1 ci_11.2.1 (k0 hL52) dL_law_387 rfl rfl (Nat.le_of_ble_eq_true rfl) rfl ?_
                refine i_aload_n S dL_law_390 rfl ?_
                refine i_aload_n S dL_law_391 rfl ?_
                refine i_iload_n S dL_law_392 rfl ?_
                refine i_iconst (v := 1) S dL_law_393 ic_1 ?_
                refine i_iadd S dL_law_394 ?_
                refine hX.1 dL_law_395 hi47 ?_
                refine i_aload_n S dL_law_396 rfl ?_
                refine i_iload_n S dL_law_397 rfl ?_
                refine i_iconst (v := 2) S dL_law_398 ic_2 ?_
                refine i_iadd S dL_law_399 ?_
                refine hX.1 dL_law_400 hi48 ?_
                refine i_aload_n S dL_law_401 rfl ?_
                refine i_iload_n S dL_law_402 rfl ?_
                refine i_iconst (v := 3) S dL_law_403 ic_3 ?_
                refine i_iadd S dL_law_404 ?_
                refine hX.1 dL_law_405 hi49 ?_
                refine i_aload_n S dL_law_406 rfl ?_
                refine i_iload_n S dL_law_407 rfl ?_
                refine i_iconst (v := 4) S dL_law_408 ic_4 ?_
                refine i_iadd S dL_law_409 ?_
                refine hX.1 dL_law_410 hi50 ?_
                refine i_aload_n S dL_law_411 rfl ?_
                refine i_iload_n S dL_law_412 rfl ?_
                refine i_iconst (v := 5) S dL_law_413 ic_5 ?_
                refine i_iadd S dL_law_414 ?_
                refine hX.1 dL_law_415 hi51 ?_
                obtain ⟨hL54, h⟩ := onLn h
                obtain ⟨p55, e55, h⟩ := bn h
                refine i_callV (As := [.int (xs (ix (s.1 + (1 : Int32)))), .int (xs (ix (s.1 + (2 : Int32)))), .int (xs (ix (s.1 + (3 : Int32)))), .int (xs (ix (s.1 + (4 : Int32)))), .int (xs (ix (s.1 + (5 : Int32))))]) (st1 := [.int p55.1, .int p53.1]) S (c_X12_feed g (d + 202) hL54 e55) mw_X12_feed lk_L_41 im_X12_feed se_X12_feed ci_12.1 ci_12.2.1 (k47 hL54) dL_law_416 rfl rfl (Nat.le_of_ble_eq_true rfl) rfl ?_
                refine i_icmp_eq (tgt := 1120) S dL_law_419 (by decide) (fun q56 => ?_) (fun q56 => ?_)
                · replace h := (if_pos q56).symm.trans h
                  have hz := hj3 _ (Option.some.inj h).symm
                  exact hz
                · replace h := (if_neg q56).symm.trans h
                  replace h := ho3 _ (Option.some.inj h).symm
                  refine i_mask (L1 := [none, none, none, none]) S [false, false, false, false] rfl ?_
                  have hz := hE _ (Option.some.inj h).symm
                  exact hz
              · replace h := (if_neg q46).symm.trans h
                by_cases q57 : ((xs (ix s.1)) &&& (31 : Int32)) = 6
                · replace h := (if_pos q57).symm.trans h
                  refine i_tswIn (tgt := 424) (off := 391) S dL_law_33 (by rw [q57]; decide) (by rw [q57]; decide) (by rw [q57]; decide) (by decide) ?_
                  refine i_aload_n S dL_law_424 rfl ?_
                  refine i_aload_n S dL_law_425 rfl ?_
                  refine i_iload_n S dL_law_426 rfl ?_
                  refine i_iconst (v := 1) S dL_law_427 ic_1 ?_
                  refine i_iadd S dL_law_428 ?_
                  obtain ⟨hi58, h⟩ := gd h
                  refine hX.1 dL_law_429 hi58 ?_
                  obtain ⟨hL59, h⟩ := onLn h
                  obtain ⟨p60, e60, h⟩ := bn h
                  refine i_callV (As := [.int (xs (ix (s.1 + (1 : Int32))))]) (st1 := [.int p60.1]) S (c_X11_near g d hL59 e60) mw_X11_near lk_L_42 im_X11_near se_X11_near ci_11.1 ci_11.2.1 (k0 hL59) dL_law_430 rfl rfl (Nat.le_of_ble_eq_true rfl) rfl ?_
                  refine i_aload_n S dL_law_433 rfl ?_
                  refine i_aload_n S dL_law_434 rfl ?_
                  refine i_iload_n S dL_law_435 rfl ?_
                  refine i_iconst (v := 1) S dL_law_436 ic_1 ?_
                  refine i_iadd S dL_law_437 ?_
                  refine hX.1 dL_law_438 hi58 ?_
                  obtain ⟨hL61, h⟩ := onLn h
                  obtain ⟨p62, e62, h⟩ := bn h
                  refine i_callV (As := [.int (xs (ix (s.1 + (1 : Int32))))]) (st1 := [.int p62.1, .int p60.1]) S (c_X12_near g (d + 195) hL61 e62) mw_X12_near lk_L_46 im_X12_near se_X12_near ci_12.1 ci_12.2.1 (k47 hL61) dL_law_439 rfl rfl (Nat.le_of_ble_eq_true rfl) rfl ?_
                  refine i_icmp_eq (tgt := 1120) S dL_law_442 (by decide) (fun q63 => ?_) (fun q63 => ?_)
                  · replace h := (if_pos q63).symm.trans h
                    have hz := hj3 _ (Option.some.inj h).symm
                    exact hz
                  · replace h := (if_neg q63).symm.trans h
                    replace h := ho3 _ (Option.some.inj h).symm
                    refine i_mask (L1 := [none, none, none, none]) S [false, false, false, false] rfl ?_
                    have hz := hE _ (Option.some.inj h).symm
                    exact hz
                · replace h := (if_neg q57).symm.trans h
                  by_cases q64 : ((xs (ix s.1)) &&& (31 : Int32)) = 7
                  · replace h := (if_pos q64).symm.trans h
                    refine i_tswIn (tgt := 447) (off := 414) S dL_law_33 (by rw [q64]; decide) (by rw [q64]; decide) (by rw [q64]; decide) (by decide) ?_
                    refine i_aload_n S dL_law_447 rfl ?_
                    refine i_aload_n S dL_law_448 rfl ?_
                    refine i_iload_n S dL_law_449 rfl ?_
                    refine i_iconst (v := 1) S dL_law_450 ic_1 ?_
                    refine i_iadd S dL_law_451 ?_
                    obtain ⟨hi65, h⟩ := gd h
                    refine hX.1 dL_law_452 hi65 ?_
                    refine i_aload_n S dL_law_453 rfl ?_
                    refine i_iload_n S dL_law_454 rfl ?_
                    refine i_iconst (v := 2) S dL_law_455 ic_2 ?_
                    refine i_iadd S dL_law_456 ?_
                    obtain ⟨hi66, h⟩ := gd h
                    refine hX.1 dL_law_457 hi66 ?_
                    obtain ⟨hL67, h⟩ := onLn h
                    obtain ⟨p68, e68, h⟩ := bn h
                    refine i_callV (As := [.int (xs (ix (s.1 + (1 : Int32)))), .int (xs (ix (s.1 + (2 : Int32))))]) (st1 := [.int p68.1]) S (c_X11_brief g (d + 198) hL67 e68) mw_X11_brief lk_L_47 im_X11_brief se_X11_brief ci_11.1 ci_11.2.1 (k0 hL67) dL_law_458 rfl rfl (Nat.le_of_ble_eq_true rfl) rfl ?_
                    refine i_aload_n S dL_law_461 rfl ?_
                    refine i_aload_n S dL_law_462 rfl ?_
                    refine i_iload_n S dL_law_463 rfl ?_
                    refine i_iconst (v := 1) S dL_law_464 ic_1 ?_
                    refine i_iadd S dL_law_465 ?_
                    refine hX.1 dL_law_466 hi65 ?_
                    refine i_aload_n S dL_law_467 rfl ?_
                    refine i_iload_n S dL_law_468 rfl ?_
                    refine i_iconst (v := 2) S dL_law_469 ic_2 ?_
                    refine i_iadd S dL_law_470 ?_
                    refine hX.1 dL_law_471 hi66 ?_
                    obtain ⟨hL69, h⟩ := onLn h
                    obtain ⟨p70, e70, h⟩ := bn h
                    refine i_callV (As := [.int (xs (ix (s.1 + (1 : Int32)))), .int (xs (ix (s.1 + (2 : Int32))))]) (st1 := [.int p70.1, .int p68.1]) S (c_X12_brief g (d + 198) hL69 e70) mw_X12_brief lk_L_51 im_X12_brief se_X12_brief ci_12.1 ci_12.2.1 (k47 hL69) dL_law_472 rfl rfl (Nat.le_of_ble_eq_true rfl) rfl ?_
                    refine i_icmp_eq (tgt := 1120) S dL_law_475 (by decide) (fun q71 => ?_) (fun q71 => ?_)
                    · replace h := (if_pos q71).symm.trans h
                      have hz := hj3 _ (Option.some.inj h).symm
                      exact hz
                    · replace h := (if_neg q71).symm.trans h
                      replace h := ho3 _ (Option.some.inj h).symm
                      refine i_mask (L1 := [none, none, none, none]) S [false, false, false, false] rfl ?_
                      have hz := hE _ (Option.some.inj h).symm
                      exact hz
                  · replace h := (if_neg q64).symm.trans h
                    by_cases q72 : ((xs (ix s.1)) &&& (31 : Int32)) = 8
                    · replace h := (if_pos q72).symm.trans h
                      refine i_tswIn (tgt := 480) (off := 447) S dL_law_33 (by rw [q72]; decide) (by rw [q72]; decide) (by rw [q72]; decide) (by decide) ?_
                      refine i_aload_n S dL_law_480 rfl ?_
                      refine i_aload_n S dL_law_481 rfl ?_
                      refine i_iload_n S dL_law_482 rfl ?_
                      refine i_iconst (v := 1) S dL_law_483 ic_1 ?_
                      refine i_iadd S dL_law_484 ?_
                      obtain ⟨hi73, h⟩ := gd h
                      refine hX.1 dL_law_485 hi73 ?_
                      refine i_aload_n S dL_law_486 rfl ?_
                      refine i_iload_n S dL_law_487 rfl ?_
                      refine i_iconst (v := 2) S dL_law_488 ic_2 ?_
                      refine i_iadd S dL_law_489 ?_
                      obtain ⟨hi74, h⟩ := gd h
                      refine hX.1 dL_law_490 hi74 ?_
                      refine i_aload_n S dL_law_491 rfl ?_
                      refine i_iload_n S dL_law_492 rfl ?_
                      refine i_iconst (v := 3) S dL_law_493 ic_3 ?_
                      refine i_iadd S dL_law_494 ?_
                      obtain ⟨hi75, h⟩ := gd h
                      refine hX.1 dL_law_495 hi75 ?_
                      obtain ⟨hL76, h⟩ := onLn h
                      obtain ⟨p77, e77, h⟩ := bn h
                      refine i_callV (As := [.int (xs (ix (s.1 + (1 : Int32)))), .int (xs (ix (s.1 + (2 : Int32)))), .int (xs (ix (s.1 + (3 : Int32))))]) (st1 := [.int p77.1]) S (c_X11_how g (d + 198) hL76 e77) mw_X11_how lk_L_52 im_X11_how se_X11_how ci_11.1 ci_11.2.1 (k0 hL76) dL_law_496 rfl rfl (Nat.le_of_ble_eq_true rfl) rfl ?_
                      refine i_aload_n S dL_law_499 rfl ?_
                      refine i_aload_n S dL_law_500 rfl ?_
                      refine i_iload_n S dL_law_501 rfl ?_
                      refine i_iconst (v := 1) S dL_law_502 ic_1 ?_
                      refine i_iadd S dL_law_503 ?_
                      refine hX.1 dL_law_504 hi73 ?_
                      refine i_aload_n S dL_law_505 rfl ?_
                      refine i_iload_n S dL_law_506 rfl ?_
                      refine i_iconst (v := 2) S dL_law_507 ic_2 ?_
                      refine i_iadd S dL_law_508 ?_
                      refine hX.1 dL_law_509 hi74 ?_
                      refine i_aload_n S dL_law_510 rfl ?_
                      refine i_iload_n S dL_law_511 rfl ?_
                      refine i_iconst (v := 3) S dL_law_512 ic_3 ?_
                      refine i_iadd S dL_law_513 ?_
                      refine hX.1 dL_law_514 hi75 ?_
                      obtain ⟨hL78, h⟩ := onLn h
                      obtain ⟨p79, e79, h⟩ := bn h
                      refine i_callV (As := [.int (xs (ix (s.1 + (1 : Int32)))), .int (xs (ix (s.1 + (2 : Int32)))), .int (xs (ix (s.1 + (3 : Int32))))]) (st1 := [.int p79.1, .int p77.1]) S (c_X12_how g (d + 196) hL78 e79) mw_X12_how lk_L_55 im_X12_how se_X12_how ci_12.1 ci_12.2.1 (k47 hL78) dL_law_515 rfl rfl (Nat.le_of_ble_eq_true rfl) rfl ?_
                      refine i_icmp_eq (tgt := 1120) S dL_law_518 (by decide) (fun q80 => ?_) (fun q80 => ?_)
                      · replace h := (if_pos q80).symm.trans h
                        have hz := hj3 _ (Option.some.inj h).symm
                        exact hz
                      · replace h := (if_neg q80).symm.trans h
                        replace h := ho3 _ (Option.some.inj h).symm
                        refine i_mask (L1 := [none, none, none, none]) S [false, false, false, false] rfl ?_
                        have hz := hE _ (Option.some.inj h).symm
                        exact hz
                    · replace h := (if_neg q72).symm.trans h
                      by_cases q81 : ((xs (ix s.1)) &&& (31 : Int32)) = 9
                      · replace h := (if_pos q81).symm.trans h
                        refine i_tswIn (tgt := 523) (off := 490) S dL_law_33 (by rw [q81]; decide) (by rw [q81]; decide) (by rw [q81]; decide) (by decide) ?_
                        refine i_aload_n S dL_law_523 rfl ?_
                        refine i_aload_n S dL_law_524 rfl ?_
                        refine i_iload_n S dL_law_525 rfl ?_
                        refine i_iconst (v := 1) S dL_law_526 ic_1 ?_
                        refine i_iadd S dL_law_527 ?_
                        obtain ⟨hi82, h⟩ := gd h
                        refine hX.1 dL_law_528 hi82 ?_
                        refine i_aload_n S dL_law_529 rfl ?_
                        refine i_iload_n S dL_law_530 rfl ?_
                        refine i_iconst (v := 2) S dL_law_531 ic_2 ?_
                        refine i_iadd S dL_law_532 ?_
                        obtain ⟨hi83, h⟩ := gd h
                        refine hX.1 dL_law_533 hi83 ?_
                        refine i_aload_n S dL_law_534 rfl ?_
                        refine i_iload_n S dL_law_535 rfl ?_
                        refine i_iconst (v := 3) S dL_law_536 ic_3 ?_
                        refine i_iadd S dL_law_537 ?_
                        obtain ⟨hi84, h⟩ := gd h
                        refine hX.1 dL_law_538 hi84 ?_
                        obtain ⟨hL85, h⟩ := onLn h
                        obtain ⟨p86, e86, h⟩ := bn h
                        refine i_callV (As := [.int (xs (ix (s.1 + (1 : Int32)))), .int (xs (ix (s.1 + (2 : Int32)))), .int (xs (ix (s.1 + (3 : Int32))))]) (st1 := [.int p86.1]) S (c_X11_sayable g (d + 198) hL85 e86) mw_X11_sayable lk_L_56 im_X11_sayable se_X11_sayable ci_11.1 ci_11.2.1 (k0 hL85) dL_law_539 rfl rfl (Nat.le_of_ble_eq_true rfl) rfl ?_
                        refine i_aload_n S dL_law_542 rfl ?_
                        refine i_aload_n S dL_law_543 rfl ?_
                        refine i_iload_n S dL_law_544 rfl ?_
                        refine i_iconst (v := 1) S dL_law_545 ic_1 ?_
                        refine i_iadd S dL_law_546 ?_
                        refine hX.1 dL_law_547 hi82 ?_
                        refine i_aload_n S dL_law_548 rfl ?_
                        refine i_iload_n S dL_law_549 rfl ?_
                        refine i_iconst (v := 2) S dL_law_550 ic_2 ?_
                        refine i_iadd S dL_law_551 ?_
                        refine hX.1 dL_law_552 hi83 ?_
                        refine i_aload_n S dL_law_553 rfl ?_
                        refine i_iload_n S dL_law_554 rfl ?_
                        refine i_iconst (v := 3) S dL_law_555 ic_3 ?_
                        refine i_iadd S dL_law_556 ?_
                        refine hX.1 dL_law_557 hi84 ?_
                        obtain ⟨hL87, h⟩ := onLn h
                        obtain ⟨p88, e88, h⟩ := bn h
                        refine i_callV (As := [.int (xs (ix (s.1 + (1 : Int32)))), .int (xs (ix (s.1 + (2 : Int32)))), .int (xs (ix (s.1 + (3 : Int32))))]) (st1 := [.int p88.1, .int p86.1]) S (c_X12_sayable g (d + 197) hL87 e88) mw_X12_sayable lk_L_59 im_X12_sayable se_X12_sayable ci_12.1 ci_12.2.1 (k47 hL87) dL_law_558 rfl rfl (Nat.le_of_ble_eq_true rfl) rfl ?_
                        refine i_icmp_eq (tgt := 1120) S dL_law_561 (by decide) (fun q89 => ?_) (fun q89 => ?_)
                        · replace h := (if_pos q89).symm.trans h
                          have hz := hj3 _ (Option.some.inj h).symm
                          exact hz
                        · replace h := (if_neg q89).symm.trans h
                          replace h := ho3 _ (Option.some.inj h).symm
                          refine i_mask (L1 := [none, none, none, none]) S [false, false, false, false] rfl ?_
                          have hz := hE _ (Option.some.inj h).symm
                          exact hz
                      · replace h := (if_neg q81).symm.trans h
                        by_cases q90 : ((xs (ix s.1)) &&& (31 : Int32)) = 10
                        · replace h := (if_pos q90).symm.trans h
                          refine i_tswIn (tgt := 566) (off := 533) S dL_law_33 (by rw [q90]; decide) (by rw [q90]; decide) (by rw [q90]; decide) (by decide) ?_
                          refine i_aload_n S dL_law_566 rfl ?_
                          refine i_aload_n S dL_law_567 rfl ?_
                          refine i_iload_n S dL_law_568 rfl ?_
                          refine i_iconst (v := 1) S dL_law_569 ic_1 ?_
                          refine i_iadd S dL_law_570 ?_
                          obtain ⟨hi91, h⟩ := gd h
                          refine hX.1 dL_law_571 hi91 ?_
                          refine i_aload_n S dL_law_572 rfl ?_
                          refine i_iload_n S dL_law_573 rfl ?_
                          refine i_iconst (v := 2) S dL_law_574 ic_2 ?_
                          refine i_iadd S dL_law_575 ?_
                          obtain ⟨hi92, h⟩ := gd h
                          refine hX.1 dL_law_576 hi92 ?_
                          obtain ⟨hL93, h⟩ := onLn h
                          obtain ⟨p94, e94, h⟩ := bn h
                          refine i_callV (As := [.int (xs (ix (s.1 + (1 : Int32)))), .int (xs (ix (s.1 + (2 : Int32))))]) (st1 := [.long p94.1]) S (c_X11_talk g (d + 198) hL93 e94) mw_X11_talk lk_L_60 im_X11_talk se_X11_talk ci_11.1 ci_11.2.1 (k0 hL93) dL_law_577 rfl rfl (Nat.le_of_ble_eq_true rfl) rfl ?_
                          refine i_aload_n S dL_law_580 rfl ?_
                          refine i_aload_n S dL_law_581 rfl ?_
                          refine i_iload_n S dL_law_582 rfl ?_
                          refine i_iconst (v := 1) S dL_law_583 ic_1 ?_
                          refine i_iadd S dL_law_584 ?_
                          refine hX.1 dL_law_585 hi91 ?_
                          refine i_aload_n S dL_law_586 rfl ?_
                          refine i_iload_n S dL_law_587 rfl ?_
                          refine i_iconst (v := 2) S dL_law_588 ic_2 ?_
                          refine i_iadd S dL_law_589 ?_
                          refine hX.1 dL_law_590 hi92 ?_
                          obtain ⟨hL95, h⟩ := onLn h
                          obtain ⟨p96, e96, h⟩ := bn h
                          refine i_callV (As := [.int (xs (ix (s.1 + (1 : Int32)))), .int (xs (ix (s.1 + (2 : Int32))))]) (st1 := [.long p96.1, .long p94.1]) S (c_X12_talk g (d + 194) hL95 e96) mw_X12_talk lk_L_64 im_X12_talk se_X12_talk ci_12.1 ci_12.2.1 (k47 hL95) dL_law_591 rfl rfl (Nat.le_of_ble_eq_true rfl) rfl ?_
                          refine i_lc_eq (tgt := 1120) S dL_law_594 dL_law_595 (by decide) (fun q97 => ?_) (fun q97 => ?_)
                          · replace h := (if_pos q97).symm.trans h
                            have hz := hj3 _ (Option.some.inj h).symm
                            exact hz
                          · replace h := (if_neg q97).symm.trans h
                            replace h := ho3 _ (Option.some.inj h).symm
                            refine i_mask (L1 := [none, none, none, none]) S [false, false, false, false] rfl ?_
                            have hz := hE _ (Option.some.inj h).symm
                            exact hz
                        · replace h := (if_neg q90).symm.trans h
                          by_cases q98 : ((xs (ix s.1)) &&& (31 : Int32)) = 11
                          · replace h := (if_pos q98).symm.trans h
                            refine i_tswIn (tgt := 600) (off := 567) S dL_law_33 (by rw [q98]; decide) (by rw [q98]; decide) (by rw [q98]; decide) (by decide) ?_
                            refine i_aload_n S dL_law_600 rfl ?_
                            refine i_aload_n S dL_law_601 rfl ?_
                            refine i_iload_n S dL_law_602 rfl ?_
                            refine i_iconst (v := 1) S dL_law_603 ic_1 ?_
                            refine i_iadd S dL_law_604 ?_
                            obtain ⟨hi99, h⟩ := gd h
                            refine hX.1 dL_law_605 hi99 ?_
                            obtain ⟨hL100, h⟩ := onLn h
                            obtain ⟨p101, e101, h⟩ := bn h
                            refine i_callV (As := [.int (xs (ix (s.1 + (1 : Int32))))]) (st1 := [.int p101.1]) S (c_X11_musts g (d + 197) hL100 e101) mw_X11_musts lk_L_65 im_X11_musts se_X11_musts ci_11.1 ci_11.2.1 (k0 hL100) dL_law_606 rfl rfl (Nat.le_of_ble_eq_true rfl) rfl ?_
                            refine i_aload_n S dL_law_609 rfl ?_
                            refine i_aload_n S dL_law_610 rfl ?_
                            refine i_iload_n S dL_law_611 rfl ?_
                            refine i_iconst (v := 1) S dL_law_612 ic_1 ?_
                            refine i_iadd S dL_law_613 ?_
                            refine hX.1 dL_law_614 hi99 ?_
                            obtain ⟨hL102, h⟩ := onLn h
                            obtain ⟨p103, e103, h⟩ := bn h
                            refine i_callV (As := [.int (xs (ix (s.1 + (1 : Int32))))]) (st1 := [.int p103.1, .int p101.1]) S (c_X12_musts g (d + 195) hL102 e103) mw_X12_musts lk_L_68 im_X12_musts se_X12_musts ci_12.1 ci_12.2.1 (k47 hL102) dL_law_615 rfl rfl (Nat.le_of_ble_eq_true rfl) rfl ?_
                            refine i_icmp_eq (tgt := 1120) S dL_law_618 (by decide) (fun q104 => ?_) (fun q104 => ?_)
                            · replace h := (if_pos q104).symm.trans h
                              have hz := hj3 _ (Option.some.inj h).symm
                              exact hz
                            · replace h := (if_neg q104).symm.trans h
                              replace h := ho3 _ (Option.some.inj h).symm
                              refine i_mask (L1 := [none, none, none, none]) S [false, false, false, false] rfl ?_
                              have hz := hE _ (Option.some.inj h).symm
                              exact hz
                          · replace h := (if_neg q98).symm.trans h
                            by_cases q105 : ((xs (ix s.1)) &&& (31 : Int32)) = 12
                            · replace h := (if_pos q105).symm.trans h
                              refine i_tswIn (tgt := 623) (off := 590) S dL_law_33 (by rw [q105]; decide) (by rw [q105]; decide) (by rw [q105]; decide) (by decide) ?_
                              refine i_aload_n S dL_law_623 rfl ?_
                              refine i_aload_n S dL_law_624 rfl ?_
                              refine i_iload_n S dL_law_625 rfl ?_
                              refine i_iconst (v := 1) S dL_law_626 ic_1 ?_
                              refine i_iadd S dL_law_627 ?_
                              obtain ⟨hi106, h⟩ := gd h
                              refine hX.1 dL_law_628 hi106 ?_
                              obtain ⟨hL107, h⟩ := onLn h
                              obtain ⟨p108, e108, h⟩ := bn h
                              refine i_callV (As := [.int (xs (ix (s.1 + (1 : Int32))))]) (st1 := [.int p108.1]) S (c_X11_strike g (d + 201) hL107 e108) mw_X11_strike lk_L_69 im_X11_strike se_X11_strike ci_11.1 ci_11.2.1 (k0 hL107) dL_law_629 rfl rfl (Nat.le_of_ble_eq_true rfl) rfl ?_
                              refine i_aload_n S dL_law_632 rfl ?_
                              refine i_aload_n S dL_law_633 rfl ?_
                              refine i_iload_n S dL_law_634 rfl ?_
                              refine i_iconst (v := 1) S dL_law_635 ic_1 ?_
                              refine i_iadd S dL_law_636 ?_
                              refine hX.1 dL_law_637 hi106 ?_
                              obtain ⟨hL109, h⟩ := onLn h
                              obtain ⟨p110, e110, h⟩ := bn h
                              refine i_callV (As := [.int (xs (ix (s.1 + (1 : Int32))))]) (st1 := [.int p110.1, .int p108.1]) S (c_X12_strike g (d + 201) hL109 e110) mw_X12_strike lk_L_72 im_X12_strike se_X12_strike ci_12.1 ci_12.2.1 (k47 hL109) dL_law_638 rfl rfl (Nat.le_of_ble_eq_true rfl) rfl ?_
                              refine i_icmp_eq (tgt := 1120) S dL_law_641 (by decide) (fun q111 => ?_) (fun q111 => ?_)
                              · replace h := (if_pos q111).symm.trans h
                                have hz := hj3 _ (Option.some.inj h).symm
                                exact hz
                              · replace h := (if_neg q111).symm.trans h
                                replace h := ho3 _ (Option.some.inj h).symm
                                refine i_mask (L1 := [none, none, none, none]) S [false, false, false, false] rfl ?_
                                have hz := hE _ (Option.some.inj h).symm
                                exact hz
                            · replace h := (if_neg q105).symm.trans h
                              by_cases q112 : ((xs (ix s.1)) &&& (31 : Int32)) = 13
                              · replace h := (if_pos q112).symm.trans h
                                refine i_tswIn (tgt := 646) (off := 613) S dL_law_33 (by rw [q112]; decide) (by rw [q112]; decide) (by rw [q112]; decide) (by decide) ?_
                                refine i_aload_n S dL_law_646 rfl ?_
                                refine i_aload_n S dL_law_647 rfl ?_
                                refine i_iload_n S dL_law_648 rfl ?_
                                refine i_iconst (v := 1) S dL_law_649 ic_1 ?_
                                refine i_iadd S dL_law_650 ?_
                                obtain ⟨hi113, h⟩ := gd h
                                refine hX.1 dL_law_651 hi113 ?_
                                obtain ⟨hL114, h⟩ := onLn h
                                obtain ⟨p115, e115, h⟩ := bn h
                                refine i_callV (As := [.int (xs (ix (s.1 + (1 : Int32))))]) (st1 := [.long p115.1]) S (c_X11_costs g (d + 198) hL114 e115) mw_X11_costs lk_L_73 im_X11_costs se_X11_costs ci_11.1 ci_11.2.1 (k0 hL114) dL_law_652 rfl rfl (Nat.le_of_ble_eq_true rfl) rfl ?_
                                refine i_aload_n S dL_law_655 rfl ?_
                                refine i_aload_n S dL_law_656 rfl ?_
                                refine i_iload_n S dL_law_657 rfl ?_
                                refine i_iconst (v := 1) S dL_law_658 ic_1 ?_
                                refine i_iadd S dL_law_659 ?_
                                refine hX.1 dL_law_660 hi113 ?_
                                obtain ⟨hL116, h⟩ := onLn h
                                obtain ⟨p117, e117, h⟩ := bn h
                                refine i_callV (As := [.int (xs (ix (s.1 + (1 : Int32))))]) (st1 := [.long p117.1, .long p115.1]) S (c_X12_costs g (d + 194) hL116 e117) mw_X12_costs lk_L_77 im_X12_costs se_X12_costs ci_12.1 ci_12.2.1 (k47 hL116) dL_law_661 rfl rfl (Nat.le_of_ble_eq_true rfl) rfl ?_
                                refine i_lc_eq (tgt := 1120) S dL_law_664 dL_law_665 (by decide) (fun q118 => ?_) (fun q118 => ?_)
                                · replace h := (if_pos q118).symm.trans h
                                  have hz := hj3 _ (Option.some.inj h).symm
                                  exact hz
                                · replace h := (if_neg q118).symm.trans h
                                  replace h := ho3 _ (Option.some.inj h).symm
                                  refine i_mask (L1 := [none, none, none, none]) S [false, false, false, false] rfl ?_
                                  have hz := hE _ (Option.some.inj h).symm
                                  exact hz
                              · replace h := (if_neg q112).symm.trans h
                                by_cases q119 : ((xs (ix s.1)) &&& (31 : Int32)) = 14
                                · replace h := (if_pos q119).symm.trans h
                                  refine i_tswIn (tgt := 670) (off := 637) S dL_law_33 (by rw [q119]; decide) (by rw [q119]; decide) (by rw [q119]; decide) (by decide) ?_
                                  refine i_aload_n S dL_law_670 rfl ?_
                                  obtain ⟨hL120, h⟩ := onLn h
                                  obtain ⟨p121, e121, h⟩ := bn h
                                  refine i_callV (As := []) (st1 := [.int p121.1]) S (c_X11_least g (d + 197) hL120 e121) mw_X11_least lk_L_78 im_X11_least se_X11_least ci_11.1 ci_11.2.1 (k0 hL120) dL_law_671 rfl rfl (Nat.le_of_ble_eq_true rfl) rfl ?_
                                  refine i_aload_n S dL_law_674 rfl ?_
                                  obtain ⟨hL122, h⟩ := onLn h
                                  obtain ⟨p123, e123, h⟩ := bn h
                                  refine i_callV (As := []) (st1 := [.int p123.1, .int p121.1]) S (c_X12_least g (d + 193) hL122 e123) mw_X12_least lk_L_82 im_X12_least se_X12_least ci_12.1 ci_12.2.1 (k47 hL122) dL_law_675 rfl rfl (Nat.le_of_ble_eq_true rfl) rfl ?_
                                  refine i_icmp_eq (tgt := 1120) S dL_law_678 (by decide) (fun q124 => ?_) (fun q124 => ?_)
                                  · replace h := (if_pos q124).symm.trans h
                                    have hz := hj3 _ (Option.some.inj h).symm
                                    exact hz
                                  · replace h := (if_neg q124).symm.trans h
                                    replace h := ho3 _ (Option.some.inj h).symm
                                    refine i_mask (L1 := [none, none, none, none]) S [false, false, false, false] rfl ?_
                                    have hz := hE _ (Option.some.inj h).symm
                                    exact hz
                                · replace h := (if_neg q119).symm.trans h
                                  by_cases q125 : ((xs (ix s.1)) &&& (31 : Int32)) = 15
                                  · replace h := (if_pos q125).symm.trans h
                                    refine i_tswIn (tgt := 683) (off := 650) S dL_law_33 (by rw [q125]; decide) (by rw [q125]; decide) (by rw [q125]; decide) (by decide) ?_
                                    refine i_aload_n S dL_law_683 rfl ?_
                                    refine i_aload_n S dL_law_684 rfl ?_
                                    refine i_iload_n S dL_law_685 rfl ?_
                                    refine i_iconst (v := 1) S dL_law_686 ic_1 ?_
                                    refine i_iadd S dL_law_687 ?_
                                    obtain ⟨hi126, h⟩ := gd h
                                    refine hX.1 dL_law_688 hi126 ?_
                                    obtain ⟨hL127, h⟩ := onLn h
                                    obtain ⟨p128, e128, h⟩ := bn h
                                    refine i_callV (As := [.int (xs (ix (s.1 + (1 : Int32))))]) (st1 := [.int p128.1]) S (c_X11_spite g (d + 197) hL127 e128) mw_X11_spite lk_L_83 im_X11_spite se_X11_spite ci_11.1 ci_11.2.1 (k0 hL127) dL_law_689 rfl rfl (Nat.le_of_ble_eq_true rfl) rfl ?_
                                    refine i_aload_n S dL_law_692 rfl ?_
                                    refine i_aload_n S dL_law_693 rfl ?_
                                    refine i_iload_n S dL_law_694 rfl ?_
                                    refine i_iconst (v := 1) S dL_law_695 ic_1 ?_
                                    refine i_iadd S dL_law_696 ?_
                                    refine hX.1 dL_law_697 hi126 ?_
                                    obtain ⟨hL129, h⟩ := onLn h
                                    obtain ⟨p130, e130, h⟩ := bn h
                                    refine i_callV (As := [.int (xs (ix (s.1 + (1 : Int32))))]) (st1 := [.int p130.1, .int p128.1]) S (c_X12_spite g (d + 194) hL129 e130) mw_X12_spite lk_L_86 im_X12_spite se_X12_spite ci_12.1 ci_12.2.1 (k47 hL129) dL_law_698 rfl rfl (Nat.le_of_ble_eq_true rfl) rfl ?_
                                    refine i_icmp_eq (tgt := 1120) S dL_law_701 (by decide) (fun q131 => ?_) (fun q131 => ?_)
                                    · replace h := (if_pos q131).symm.trans h
                                      have hz := hj3 _ (Option.some.inj h).symm
                                      exact hz
                                    · replace h := (if_neg q131).symm.trans h
                                      replace h := ho3 _ (Option.some.inj h).symm
                                      refine i_mask (L1 := [none, none, none, none]) S [false, false, false, false] rfl ?_
                                      have hz := hE _ (Option.some.inj h).symm
                                      exact hz
                                  · replace h := (if_neg q125).symm.trans h
                                    by_cases q132 : ((xs (ix s.1)) &&& (31 : Int32)) = 16
                                    · replace h := (if_pos q132).symm.trans h
                                      refine i_tswIn (tgt := 706) (off := 673) S dL_law_33 (by rw [q132]; decide) (by rw [q132]; decide) (by rw [q132]; decide) (by decide) ?_
                                      refine i_aload_n S dL_law_706 rfl ?_
                                      refine i_aload_n S dL_law_707 rfl ?_
                                      refine i_iload_n S dL_law_708 rfl ?_
                                      refine i_iconst (v := 1) S dL_law_709 ic_1 ?_
                                      refine i_iadd S dL_law_710 ?_
                                      obtain ⟨hi133, h⟩ := gd h
                                      refine hX.1 dL_law_711 hi133 ?_
                                      obtain ⟨hL134, h⟩ := onLn h
                                      obtain ⟨p135, e135, h⟩ := bn h
                                      refine i_callV (As := [.int (xs (ix (s.1 + (1 : Int32))))]) (st1 := [.int p135.1]) S (c_X11_vote g (d + 196) hL134 e135) mw_X11_vote lk_L_87 im_X11_vote se_X11_vote ci_11.1 ci_11.2.1 (k0 hL134) dL_law_712 rfl rfl (Nat.le_of_ble_eq_true rfl) rfl ?_
                                      refine i_aload_n S dL_law_715 rfl ?_
                                      refine i_aload_n S dL_law_716 rfl ?_
                                      refine i_iload_n S dL_law_717 rfl ?_
                                      refine i_iconst (v := 1) S dL_law_718 ic_1 ?_
                                      refine i_iadd S dL_law_719 ?_
                                      refine hX.1 dL_law_720 hi133 ?_
                                      obtain ⟨hL136, h⟩ := onLn h
                                      obtain ⟨p137, e137, h⟩ := bn h
                                      refine i_callV (As := [.int (xs (ix (s.1 + (1 : Int32))))]) (st1 := [.int p137.1, .int p135.1]) S (c_X12_vote g (d + 190) hL136 e137) mw_X12_vote lk_L_90 im_X12_vote se_X12_vote ci_12.1 ci_12.2.1 (k47 hL136) dL_law_721 rfl rfl (Nat.le_of_ble_eq_true rfl) rfl ?_
                                      refine i_icmp_eq (tgt := 1120) S dL_law_724 (by decide) (fun q138 => ?_) (fun q138 => ?_)
                                      · replace h := (if_pos q138).symm.trans h
                                        have hz := hj3 _ (Option.some.inj h).symm
                                        exact hz
                                      · replace h := (if_neg q138).symm.trans h
                                        replace h := ho3 _ (Option.some.inj h).symm
                                        refine i_mask (L1 := [none, none, none, none]) S [false, false, false, false] rfl ?_
                                        have hz := hE _ (Option.some.inj h).symm
                                        exact hz
                                    · replace h := (if_neg q132).symm.trans h
                                      by_cases q139 : ((xs (ix s.1)) &&& (31 : Int32)) = 17
                                      · replace h := (if_pos q139).symm.trans h
                                        refine i_tswIn (tgt := 729) (off := 696) S dL_law_33 (by rw [q139]; decide) (by rw [q139]; decide) (by rw [q139]; decide) (by decide) ?_
                                        refine i_aload_n S dL_law_729 rfl ?_
                                        refine i_aload_n S dL_law_730 rfl ?_
                                        refine i_iload_n S dL_law_731 rfl ?_
                                        refine i_iconst (v := 1) S dL_law_732 ic_1 ?_
                                        refine i_iadd S dL_law_733 ?_
                                        obtain ⟨hi140, h⟩ := gd h
                                        refine hX.1 dL_law_734 hi140 ?_
                                        refine i_aload_n S dL_law_735 rfl ?_
                                        refine i_iload_n S dL_law_736 rfl ?_
                                        refine i_iconst (v := 2) S dL_law_737 ic_2 ?_
                                        refine i_iadd S dL_law_738 ?_
                                        obtain ⟨hi141, h⟩ := gd h
                                        refine hX.1 dL_law_739 hi141 ?_
                                        obtain ⟨hL142, h⟩ := onLn h
                                        obtain ⟨p143, e143, h⟩ := bn h
                                        refine i_callV (As := [.int (xs (ix (s.1 + (1 : Int32)))), .int (xs (ix (s.1 + (2 : Int32))))]) (st1 := [.long p143.1]) S (c_X11_order g (d + 196) hL142 e143) mw_X11_order lk_L_91 im_X11_order se_X11_order ci_11.1 ci_11.2.1 (k0 hL142) dL_law_740 rfl rfl (Nat.le_of_ble_eq_true rfl) rfl ?_
                                        refine i_aload_n S dL_law_743 rfl ?_
                                        refine i_aload_n S dL_law_744 rfl ?_
                                        refine i_iload_n S dL_law_745 rfl ?_
                                        refine i_iconst (v := 1) S dL_law_746 ic_1 ?_
                                        refine i_iadd S dL_law_747 ?_
                                        refine hX.1 dL_law_748 hi140 ?_
                                        refine i_aload_n S dL_law_749 rfl ?_
                                        refine i_iload_n S dL_law_750 rfl ?_
                                        refine i_iconst (v := 2) S dL_law_751 ic_2 ?_
                                        refine i_iadd S dL_law_752 ?_
                                        refine hX.1 dL_law_753 hi141 ?_
                                        obtain ⟨hL144, h⟩ := onLn h
                                        obtain ⟨p145, e145, h⟩ := bn h
                                        refine i_callV (As := [.int (xs (ix (s.1 + (1 : Int32)))), .int (xs (ix (s.1 + (2 : Int32))))]) (st1 := [.long p145.1, .long p143.1]) S (c_X12_order g (d + 193) hL144 e145) mw_X12_order lk_L_94 im_X12_order se_X12_order ci_12.1 ci_12.2.1 (k47 hL144) dL_law_754 rfl rfl (Nat.le_of_ble_eq_true rfl) rfl ?_
                                        refine i_lc_eq (tgt := 1120) S dL_law_757 dL_law_758 (by decide) (fun q146 => ?_) (fun q146 => ?_)
                                        · replace h := (if_pos q146).symm.trans h
                                          have hz := hj3 _ (Option.some.inj h).symm
                                          exact hz
                                        · replace h := (if_neg q146).symm.trans h
                                          replace h := ho3 _ (Option.some.inj h).symm
                                          refine i_mask (L1 := [none, none, none, none]) S [false, false, false, false] rfl ?_
                                          have hz := hE _ (Option.some.inj h).symm
                                          exact hz
                                      · replace h := (if_neg q139).symm.trans h
                                        by_cases q147 : ((xs (ix s.1)) &&& (31 : Int32)) = 18
                                        · replace h := (if_pos q147).symm.trans h
                                          refine i_tswIn (tgt := 763) (off := 730) S dL_law_33 (by rw [q147]; decide) (by rw [q147]; decide) (by rw [q147]; decide) (by decide) ?_
                                          refine i_aload_n S dL_law_763 rfl ?_
                                          refine i_aload_n S dL_law_764 rfl ?_
                                          refine i_iload_n S dL_law_765 rfl ?_
                                          refine i_iconst (v := 1) S dL_law_766 ic_1 ?_
                                          refine i_iadd S dL_law_767 ?_
                                          obtain ⟨hi148, h⟩ := gd h
                                          refine hX.1 dL_law_768 hi148 ?_
                                          obtain ⟨hL149, h⟩ := onLn h
                                          obtain ⟨p150, e150, h⟩ := bn h
                                          refine i_callV (As := [.int (xs (ix (s.1 + (1 : Int32))))]) (st1 := [.long p150.1]) S (c_X11_gap g (d + 196) hL149 e150) mw_X11_gap lk_L_95 im_X11_gap se_X11_gap ci_11.1 ci_11.2.1 (k0 hL149) dL_law_769 rfl rfl (Nat.le_of_ble_eq_true rfl) rfl ?_
                                          refine i_aload_n S dL_law_772 rfl ?_
                                          refine i_aload_n S dL_law_773 rfl ?_
                                          refine i_iload_n S dL_law_774 rfl ?_
                                          refine i_iconst (v := 1) S dL_law_775 ic_1 ?_
                                          refine i_iadd S dL_law_776 ?_
                                          refine hX.1 dL_law_777 hi148 ?_
                                          obtain ⟨hL151, h⟩ := onLn h
                                          obtain ⟨p152, e152, h⟩ := bn h
                                          refine i_callV (As := [.int (xs (ix (s.1 + (1 : Int32))))]) (st1 := [.long p152.1, .long p150.1]) S (c_X12_gap g (d + 193) hL151 e152) mw_X12_gap lk_L_98 im_X12_gap se_X12_gap ci_12.1 ci_12.2.1 (k47 hL151) dL_law_778 rfl rfl (Nat.le_of_ble_eq_true rfl) rfl ?_
                                          refine i_lc_eq (tgt := 1120) S dL_law_781 dL_law_782 (by decide) (fun q153 => ?_) (fun q153 => ?_)
                                          · replace h := (if_pos q153).symm.trans h
                                            have hz := hj3 _ (Option.some.inj h).symm
                                            exact hz
                                          · replace h := (if_neg q153).symm.trans h
                                            replace h := ho3 _ (Option.some.inj h).symm
                                            refine i_mask (L1 := [none, none, none, none]) S [false, false, false, false] rfl ?_
                                            have hz := hE _ (Option.some.inj h).symm
                                            exact hz
                                        · replace h := (if_neg q147).symm.trans h
                                          by_cases q154 : ((xs (ix s.1)) &&& (31 : Int32)) = 19
                                          · replace h := (if_pos q154).symm.trans h
                                            refine i_tswIn (tgt := 787) (off := 754) S dL_law_33 (by rw [q154]; decide) (by rw [q154]; decide) (by rw [q154]; decide) (by decide) ?_
                                            refine i_aload_n S dL_law_787 rfl ?_
                                            refine i_aload_n S dL_law_788 rfl ?_
                                            refine i_iload_n S dL_law_789 rfl ?_
                                            refine i_iconst (v := 1) S dL_law_790 ic_1 ?_
                                            refine i_iadd S dL_law_791 ?_
                                            obtain ⟨hi155, h⟩ := gd h
                                            refine hX.1 dL_law_792 hi155 ?_
                                            refine i_aload_n S dL_law_793 rfl ?_
                                            refine i_iload_n S dL_law_794 rfl ?_
                                            refine i_iconst (v := 2) S dL_law_795 ic_2 ?_
                                            refine i_iadd S dL_law_796 ?_
                                            obtain ⟨hi156, h⟩ := gd h
                                            refine hX.1 dL_law_797 hi156 ?_
                                            obtain ⟨hL157, h⟩ := onLn h
                                            obtain ⟨p158, e158, h⟩ := bn h
                                            refine i_callV (As := [.int (xs (ix (s.1 + (1 : Int32)))), .int (xs (ix (s.1 + (2 : Int32))))]) (st1 := [.long p158.1]) S (c_X11_row g (d + 196) hL157 e158) mw_X11_row lk_L_99 im_X11_row se_X11_row ci_11.1 ci_11.2.1 (k0 hL157) dL_law_798 rfl rfl (Nat.le_of_ble_eq_true rfl) rfl ?_
                                            refine i_aload_n S dL_law_801 rfl ?_
                                            refine i_aload_n S dL_law_802 rfl ?_
                                            refine i_iload_n S dL_law_803 rfl ?_
                                            refine i_iconst (v := 1) S dL_law_804 ic_1 ?_
                                            refine i_iadd S dL_law_805 ?_
                                            refine hX.1 dL_law_806 hi155 ?_
                                            refine i_aload_n S dL_law_807 rfl ?_
                                            refine i_iload_n S dL_law_808 rfl ?_
                                            refine i_iconst (v := 2) S dL_law_809 ic_2 ?_
                                            refine i_iadd S dL_law_810 ?_
                                            refine hX.1 dL_law_811 hi156 ?_
                                            obtain ⟨hL159, h⟩ := onLn h
                                            obtain ⟨p160, e160, h⟩ := bn h
                                            refine i_callV (As := [.int (xs (ix (s.1 + (1 : Int32)))), .int (xs (ix (s.1 + (2 : Int32))))]) (st1 := [.long p160.1, .long p158.1]) S (c_X12_row g (d + 194) hL159 e160) mw_X12_row lk_L_102 im_X12_row se_X12_row ci_12.1 ci_12.2.1 (k47 hL159) dL_law_812 rfl rfl (Nat.le_of_ble_eq_true rfl) rfl ?_
                                            refine i_lc_eq (tgt := 1120) S dL_law_815 dL_law_816 (by decide) (fun q161 => ?_) (fun q161 => ?_)
                                            · replace h := (if_pos q161).symm.trans h
                                              have hz := hj3 _ (Option.some.inj h).symm
                                              exact hz
                                            · replace h := (if_neg q161).symm.trans h
                                              replace h := ho3 _ (Option.some.inj h).symm
                                              refine i_mask (L1 := [none, none, none, none]) S [false, false, false, false] rfl ?_
                                              have hz := hE _ (Option.some.inj h).symm
                                              exact hz
                                          · replace h := (if_neg q154).symm.trans h
                                            by_cases q162 : ((xs (ix s.1)) &&& (31 : Int32)) = 20
                                            · replace h := (if_pos q162).symm.trans h
                                              refine i_tswIn (tgt := 821) (off := 788) S dL_law_33 (by rw [q162]; decide) (by rw [q162]; decide) (by rw [q162]; decide) (by decide) ?_
                                              refine i_aload_n S dL_law_821 rfl ?_
                                              obtain ⟨hL163, h⟩ := onLn h
                                              obtain ⟨p164, e164, h⟩ := bn h
                                              refine i_callV (As := []) (st1 := [.int p164.1]) S (c_X11_till g (d + 196) hL163 e164) mw_X11_till lk_L_103 im_X11_till se_X11_till ci_11.1 ci_11.2.1 (k0 hL163) dL_law_822 rfl rfl (Nat.le_of_ble_eq_true rfl) rfl ?_
                                              refine i_aload_n S dL_law_825 rfl ?_
                                              obtain ⟨hL165, h⟩ := onLn h
                                              obtain ⟨p166, e166, h⟩ := bn h
                                              refine i_callV (As := []) (st1 := [.int p166.1, .int p164.1]) S (c_X12_till g (d + 193) hL165 e166) mw_X12_till lk_L_106 im_X12_till se_X12_till ci_12.1 ci_12.2.1 (k47 hL165) dL_law_826 rfl rfl (Nat.le_of_ble_eq_true rfl) rfl ?_
                                              refine i_icmp_eq (tgt := 1120) S dL_law_829 (by decide) (fun q167 => ?_) (fun q167 => ?_)
                                              · replace h := (if_pos q167).symm.trans h
                                                have hz := hj3 _ (Option.some.inj h).symm
                                                exact hz
                                              · replace h := (if_neg q167).symm.trans h
                                                replace h := ho3 _ (Option.some.inj h).symm
                                                refine i_mask (L1 := [none, none, none, none]) S [false, false, false, false] rfl ?_
                                                have hz := hE _ (Option.some.inj h).symm
                                                exact hz
                                            · replace h := (if_neg q162).symm.trans h
                                              by_cases q168 : ((xs (ix s.1)) &&& (31 : Int32)) = 21
                                              · replace h := (if_pos q168).symm.trans h
                                                refine i_tswIn (tgt := 834) (off := 801) S dL_law_33 (by rw [q168]; decide) (by rw [q168]; decide) (by rw [q168]; decide) (by decide) ?_
                                                refine i_aload_n S dL_law_834 rfl ?_
                                                refine i_aload_n S dL_law_835 rfl ?_
                                                refine i_iload_n S dL_law_836 rfl ?_
                                                refine i_iconst (v := 1) S dL_law_837 ic_1 ?_
                                                refine i_iadd S dL_law_838 ?_
                                                obtain ⟨hi169, h⟩ := gd h
                                                refine hX.1 dL_law_839 hi169 ?_
                                                refine i_aload_n S dL_law_840 rfl ?_
                                                refine i_iload_n S dL_law_841 rfl ?_
                                                refine i_iconst (v := 2) S dL_law_842 ic_2 ?_
                                                refine i_iadd S dL_law_843 ?_
                                                obtain ⟨hi170, h⟩ := gd h
                                                refine hX.1 dL_law_844 hi170 ?_
                                                obtain ⟨hL171, h⟩ := onLn h
                                                obtain ⟨p172, e172, h⟩ := bn h
                                                refine i_callV (As := [.int (xs (ix (s.1 + (1 : Int32)))), .int (xs (ix (s.1 + (2 : Int32))))]) (st1 := [.long p172.1]) S (c_X11_kept g (d + 197) hL171 e172) mw_X11_kept lk_L_107 im_X11_kept se_X11_kept ci_11.1 ci_11.2.1 (k0 hL171) dL_law_845 rfl rfl (Nat.le_of_ble_eq_true rfl) rfl ?_
                                                refine i_aload_n S dL_law_848 rfl ?_
                                                refine i_aload_n S dL_law_849 rfl ?_
                                                refine i_iload_n S dL_law_850 rfl ?_
                                                refine i_iconst (v := 1) S dL_law_851 ic_1 ?_
                                                refine i_iadd S dL_law_852 ?_
                                                refine hX.1 dL_law_853 hi169 ?_
                                                refine i_aload_n S dL_law_854 rfl ?_
                                                refine i_iload_n S dL_law_855 rfl ?_
                                                refine i_iconst (v := 2) S dL_law_856 ic_2 ?_
                                                refine i_iadd S dL_law_857 ?_
                                                refine hX.1 dL_law_858 hi170 ?_
                                                obtain ⟨hL173, h⟩ := onLn h
                                                obtain ⟨p174, e174, h⟩ := bn h
                                                refine i_callV (As := [.int (xs (ix (s.1 + (1 : Int32)))), .int (xs (ix (s.1 + (2 : Int32))))]) (st1 := [.long p174.1, .long p172.1]) S (c_X12_kept g (d + 194) hL173 e174) mw_X12_kept lk_L_110 im_X12_kept se_X12_kept ci_12.1 ci_12.2.1 (k47 hL173) dL_law_859 rfl rfl (Nat.le_of_ble_eq_true rfl) rfl ?_
                                                refine i_lc_eq (tgt := 1120) S dL_law_862 dL_law_863 (by decide) (fun q175 => ?_) (fun q175 => ?_)
                                                · replace h := (if_pos q175).symm.trans h
                                                  have hz := hj3 _ (Option.some.inj h).symm
                                                  exact hz
                                                · replace h := (if_neg q175).symm.trans h
                                                  replace h := ho3 _ (Option.some.inj h).symm
                                                  refine i_mask (L1 := [none, none, none, none]) S [false, false, false, false] rfl ?_
                                                  have hz := hE _ (Option.some.inj h).symm
                                                  exact hz
                                              · replace h := (if_neg q168).symm.trans h
                                                by_cases q176 : ((xs (ix s.1)) &&& (31 : Int32)) = 22
                                                · replace h := (if_pos q176).symm.trans h
                                                  refine i_tswIn (tgt := 868) (off := 835) S dL_law_33 (by rw [q176]; decide) (by rw [q176]; decide) (by rw [q176]; decide) (by decide) ?_
                                                  refine i_aload_n S dL_law_868 rfl ?_
                                                  refine i_aload_n S dL_law_869 rfl ?_
                                                  refine i_iload_n S dL_law_870 rfl ?_
                                                  refine i_iconst (v := 1) S dL_law_871 ic_1 ?_
                                                  refine i_iadd S dL_law_872 ?_
                                                  obtain ⟨hi177, h⟩ := gd h
                                                  refine hX.1 dL_law_873 hi177 ?_
                                                  obtain ⟨hL178, h⟩ := onLn h
                                                  obtain ⟨p179, e179, h⟩ := bn h
                                                  refine i_callV (As := [.int (xs (ix (s.1 + (1 : Int32))))]) (st1 := [.long p179.1]) S (c_X11_back g (d + 197) hL178 e179) mw_X11_back lk_L_111 im_X11_back se_X11_back ci_11.1 ci_11.2.1 (k0 hL178) dL_law_874 rfl rfl (Nat.le_of_ble_eq_true rfl) rfl ?_
                                                  refine i_aload_n S dL_law_877 rfl ?_
                                                  refine i_aload_n S dL_law_878 rfl ?_
                                                  refine i_iload_n S dL_law_879 rfl ?_
                                                  refine i_iconst (v := 1) S dL_law_880 ic_1 ?_
                                                  refine i_iadd S dL_law_881 ?_
                                                  refine hX.1 dL_law_882 hi177 ?_
                                                  obtain ⟨hL180, h⟩ := onLn h
                                                  obtain ⟨p181, e181, h⟩ := bn h
                                                  refine i_callV (As := [.int (xs (ix (s.1 + (1 : Int32))))]) (st1 := [.long p181.1, .long p179.1]) S (c_X12_back g (d + 194) hL180 e181) mw_X12_back lk_L_114 im_X12_back se_X12_back ci_12.1 ci_12.2.1 (k47 hL180) dL_law_883 rfl rfl (Nat.le_of_ble_eq_true rfl) rfl ?_
                                                  refine i_lc_eq (tgt := 1120) S dL_law_886 dL_law_887 (by decide) (fun q182 => ?_) (fun q182 => ?_)
                                                  · replace h := (if_pos q182).symm.trans h
                                                    have hz := hj3 _ (Option.some.inj h).symm
                                                    exact hz
                                                  · replace h := (if_neg q182).symm.trans h
                                                    replace h := ho3 _ (Option.some.inj h).symm
                                                    refine i_mask (L1 := [none, none, none, none]) S [false, false, false, false] rfl ?_
                                                    have hz := hE _ (Option.some.inj h).symm
                                                    exact hz
                                                · replace h := (if_neg q176).symm.trans h
                                                  by_cases q183 : ((xs (ix s.1)) &&& (31 : Int32)) = 23
                                                  · replace h := (if_pos q183).symm.trans h
                                                    refine i_tswIn (tgt := 892) (off := 859) S dL_law_33 (by rw [q183]; decide) (by rw [q183]; decide) (by rw [q183]; decide) (by decide) ?_
                                                    refine i_aload_n S dL_law_892 rfl ?_
                                                    refine i_aload_n S dL_law_893 rfl ?_
                                                    refine i_iload_n S dL_law_894 rfl ?_
                                                    refine i_iconst (v := 1) S dL_law_895 ic_1 ?_
                                                    refine i_iadd S dL_law_896 ?_
                                                    obtain ⟨hi184, h⟩ := gd h
                                                    refine hX.1 dL_law_897 hi184 ?_
                                                    obtain ⟨hL185, h⟩ := onLn h
                                                    obtain ⟨p186, e186, h⟩ := bn h
                                                    refine i_callV (As := [.int (xs (ix (s.1 + (1 : Int32))))]) (st1 := [.int p186.1]) S (c_X11_told g (d + 198) hL185 e186) mw_X11_told lk_L_115 im_X11_told se_X11_told ci_11.1 ci_11.2.1 (k0 hL185) dL_law_898 rfl rfl (Nat.le_of_ble_eq_true rfl) rfl ?_
                                                    refine i_aload_n S dL_law_901 rfl ?_
                                                    refine i_aload_n S dL_law_902 rfl ?_
                                                    refine i_iload_n S dL_law_903 rfl ?_
                                                    refine i_iconst (v := 1) S dL_law_904 ic_1 ?_
                                                    refine i_iadd S dL_law_905 ?_
                                                    refine hX.1 dL_law_906 hi184 ?_
                                                    obtain ⟨hL187, h⟩ := onLn h
                                                    obtain ⟨p188, e188, h⟩ := bn h
                                                    refine i_callV (As := [.int (xs (ix (s.1 + (1 : Int32))))]) (st1 := [.int p188.1, .int p186.1]) S (c_X12_told g (d + 198) hL187 e188) mw_X12_told lk_L_118 im_X12_told se_X12_told ci_12.1 ci_12.2.1 (k47 hL187) dL_law_907 rfl rfl (Nat.le_of_ble_eq_true rfl) rfl ?_
                                                    refine i_icmp_eq (tgt := 1120) S dL_law_910 (by decide) (fun q189 => ?_) (fun q189 => ?_)
                                                    · replace h := (if_pos q189).symm.trans h
                                                      have hz := hj3 _ (Option.some.inj h).symm
                                                      exact hz
                                                    · replace h := (if_neg q189).symm.trans h
                                                      replace h := ho3 _ (Option.some.inj h).symm
                                                      refine i_mask (L1 := [none, none, none, none]) S [false, false, false, false] rfl ?_
                                                      have hz := hE _ (Option.some.inj h).symm
                                                      exact hz
                                                  · replace h := (if_neg q183).symm.trans h
                                                    by_cases q190 : ((xs (ix s.1)) &&& (31 : Int32)) = 24
                                                    · replace h := (if_pos q190).symm.trans h
                                                      refine i_tswIn (tgt := 915) (off := 882) S dL_law_33 (by rw [q190]; decide) (by rw [q190]; decide) (by rw [q190]; decide) (by decide) ?_
                                                      refine i_aload_n S dL_law_915 rfl ?_
                                                      refine i_aload_n S dL_law_916 rfl ?_
                                                      refine i_iload_n S dL_law_917 rfl ?_
                                                      refine i_iconst (v := 1) S dL_law_918 ic_1 ?_
                                                      refine i_iadd S dL_law_919 ?_
                                                      obtain ⟨hi191, h⟩ := gd h
                                                      refine hX.1 dL_law_920 hi191 ?_
                                                      obtain ⟨hL192, h⟩ := onLn h
                                                      obtain ⟨p193, e193, h⟩ := bn h
                                                      refine i_callV (As := [.int (xs (ix (s.1 + (1 : Int32))))]) (st1 := [.int p193.1]) S (c_X11_leads g (d + 197) hL192 e193) mw_X11_leads lk_L_119 im_X11_leads se_X11_leads ci_11.1 ci_11.2.1 (k0 hL192) dL_law_921 rfl rfl (Nat.le_of_ble_eq_true rfl) rfl ?_
                                                      refine i_aload_n S dL_law_924 rfl ?_
                                                      refine i_aload_n S dL_law_925 rfl ?_
                                                      refine i_iload_n S dL_law_926 rfl ?_
                                                      refine i_iconst (v := 1) S dL_law_927 ic_1 ?_
                                                      refine i_iadd S dL_law_928 ?_
                                                      refine hX.1 dL_law_929 hi191 ?_
                                                      obtain ⟨hL194, h⟩ := onLn h
                                                      obtain ⟨p195, e195, h⟩ := bn h
                                                      refine i_callV (As := [.int (xs (ix (s.1 + (1 : Int32))))]) (st1 := [.int p195.1, .int p193.1]) S (c_X12_leads g (d + 194) hL194 e195) mw_X12_leads lk_L_122 im_X12_leads se_X12_leads ci_12.1 ci_12.2.1 (k47 hL194) dL_law_930 rfl rfl (Nat.le_of_ble_eq_true rfl) rfl ?_
                                                      refine i_icmp_eq (tgt := 1120) S dL_law_933 (by decide) (fun q196 => ?_) (fun q196 => ?_)
                                                      · replace h := (if_pos q196).symm.trans h
                                                        have hz := hj3 _ (Option.some.inj h).symm
                                                        exact hz
                                                      · replace h := (if_neg q196).symm.trans h
                                                        replace h := ho3 _ (Option.some.inj h).symm
                                                        refine i_mask (L1 := [none, none, none, none]) S [false, false, false, false] rfl ?_
                                                        have hz := hE _ (Option.some.inj h).symm
                                                        exact hz
                                                    · replace h := (if_neg q190).symm.trans h
                                                      by_cases q197 : ((xs (ix s.1)) &&& (31 : Int32)) = 25
                                                      · replace h := (if_pos q197).symm.trans h
                                                        refine i_tswIn (tgt := 938) (off := 905) S dL_law_33 (by rw [q197]; decide) (by rw [q197]; decide) (by rw [q197]; decide) (by decide) ?_
                                                        refine i_aload_n S dL_law_938 rfl ?_
                                                        obtain ⟨hL198, h⟩ := onLn h
                                                        obtain ⟨p199, e199, h⟩ := bn h
                                                        refine i_callV (As := []) (st1 := [.int p199.1]) S (c_X11_round g (d + 196) hL198 e199) mw_X11_round lk_L_123 im_X11_round se_X11_round ci_11.1 ci_11.2.1 (k0 hL198) dL_law_939 rfl rfl (Nat.le_of_ble_eq_true rfl) rfl ?_
                                                        refine i_aload_n S dL_law_942 rfl ?_
                                                        obtain ⟨hL200, h⟩ := onLn h
                                                        obtain ⟨p201, e201, h⟩ := bn h
                                                        refine i_callV (As := []) (st1 := [.int p201.1, .int p199.1]) S (c_X12_round g (d + 194) hL200 e201) mw_X12_round lk_L_126 im_X12_round se_X12_round ci_12.1 ci_12.2.1 (k47 hL200) dL_law_943 rfl rfl (Nat.le_of_ble_eq_true rfl) rfl ?_
                                                        refine i_icmp_eq (tgt := 1120) S dL_law_946 (by decide) (fun q202 => ?_) (fun q202 => ?_)
                                                        · replace h := (if_pos q202).symm.trans h
                                                          have hz := hj3 _ (Option.some.inj h).symm
                                                          exact hz
                                                        · replace h := (if_neg q202).symm.trans h
                                                          replace h := ho3 _ (Option.some.inj h).symm
                                                          refine i_mask (L1 := [none, none, none, none]) S [false, false, false, false] rfl ?_
                                                          have hz := hE _ (Option.some.inj h).symm
                                                          exact hz
                                                      · replace h := (if_neg q197).symm.trans h
                                                        by_cases q203 : ((xs (ix s.1)) &&& (31 : Int32)) = 26
                                                        · replace h := (if_pos q203).symm.trans h
                                                          refine i_tswIn (tgt := 951) (off := 918) S dL_law_33 (by rw [q203]; decide) (by rw [q203]; decide) (by rw [q203]; decide) (by decide) ?_
                                                          refine i_aload_n S dL_law_951 rfl ?_
                                                          obtain ⟨hL204, h⟩ := onLn h
                                                          obtain ⟨p205, e205, h⟩ := bn h
                                                          refine i_callV (As := []) (st1 := [.int p205.1]) S (c_X11_fewest g (d + 196) hL204 e205) mw_X11_fewest lk_L_127 im_X11_fewest se_X11_fewest ci_11.1 ci_11.2.1 (k0 hL204) dL_law_952 rfl rfl (Nat.le_of_ble_eq_true rfl) rfl ?_
                                                          refine i_aload_n S dL_law_955 rfl ?_
                                                          obtain ⟨hL206, h⟩ := onLn h
                                                          obtain ⟨p207, e207, h⟩ := bn h
                                                          refine i_callV (As := []) (st1 := [.int p207.1, .int p205.1]) S (c_X12_fewest g (d + 197) hL206 e207) mw_X12_fewest lk_L_130 im_X12_fewest se_X12_fewest ci_12.1 ci_12.2.1 (k47 hL206) dL_law_956 rfl rfl (Nat.le_of_ble_eq_true rfl) rfl ?_
                                                          refine i_icmp_eq (tgt := 1120) S dL_law_959 (by decide) (fun q208 => ?_) (fun q208 => ?_)
                                                          · replace h := (if_pos q208).symm.trans h
                                                            have hz := hj3 _ (Option.some.inj h).symm
                                                            exact hz
                                                          · replace h := (if_neg q208).symm.trans h
                                                            replace h := ho3 _ (Option.some.inj h).symm
                                                            refine i_mask (L1 := [none, none, none, none]) S [false, false, false, false] rfl ?_
                                                            have hz := hE _ (Option.some.inj h).symm
                                                            exact hz
                                                        · replace h := (if_neg q203).symm.trans h
                                                          by_cases q209 : ((xs (ix s.1)) &&& (31 : Int32)) = 27
                                                          · replace h := (if_pos q209).symm.trans h
                                                            refine i_tswIn (tgt := 964) (off := 931) S dL_law_33 (by rw [q209]; decide) (by rw [q209]; decide) (by rw [q209]; decide) (by decide) ?_
                                                            refine i_aload_n S dL_law_964 rfl ?_
                                                            refine i_aload_n S dL_law_965 rfl ?_
                                                            refine i_iload_n S dL_law_966 rfl ?_
                                                            refine i_iconst (v := 1) S dL_law_967 ic_1 ?_
                                                            refine i_iadd S dL_law_968 ?_
                                                            obtain ⟨hi210, h⟩ := gd h
                                                            refine hX.1 dL_law_969 hi210 ?_
                                                            refine i_aload_n S dL_law_970 rfl ?_
                                                            refine i_iload_n S dL_law_971 rfl ?_
                                                            refine i_iconst (v := 2) S dL_law_972 ic_2 ?_
                                                            refine i_iadd S dL_law_973 ?_
                                                            obtain ⟨hi211, h⟩ := gd h
                                                            refine hX.1 dL_law_974 hi211 ?_
                                                            obtain ⟨hL212, h⟩ := onLn h
                                                            obtain ⟨p213, e213, h⟩ := bn h
                                                            refine i_callV (As := [.int (xs (ix (s.1 + (1 : Int32)))), .int (xs (ix (s.1 + (2 : Int32))))]) (st1 := [.int p213.1]) S (c_X11_law g (d + 99) hL212 e213) mw_X11_law lk_L_131 im_X11_law se_X11_law ci_11.1 ci_11.2.1 (k0 hL212) dL_law_975 rfl rfl (Nat.le_of_ble_eq_true rfl) rfl ?_
                                                            refine i_aload_n S dL_law_978 rfl ?_
                                                            refine i_aload_n S dL_law_979 rfl ?_
                                                            refine i_iload_n S dL_law_980 rfl ?_
                                                            refine i_iconst (v := 1) S dL_law_981 ic_1 ?_
                                                            refine i_iadd S dL_law_982 ?_
                                                            refine hX.1 dL_law_983 hi210 ?_
                                                            refine i_aload_n S dL_law_984 rfl ?_
                                                            refine i_iload_n S dL_law_985 rfl ?_
                                                            refine i_iconst (v := 2) S dL_law_986 ic_2 ?_
                                                            refine i_iadd S dL_law_987 ?_
                                                            refine hX.1 dL_law_988 hi211 ?_
                                                            obtain ⟨hL214, h⟩ := onLn h
                                                            obtain ⟨p215, e215, h⟩ := bn h
                                                            refine i_callV (As := [.int (xs (ix (s.1 + (1 : Int32)))), .int (xs (ix (s.1 + (2 : Int32))))]) (st1 := [.int p215.1, .int p213.1]) S (c_X12_law g (d + 200) hL214 e215) mw_X12_law lk_L_134 im_X12_law se_X12_law ci_12.1 ci_12.2.1 (k47 hL214) dL_law_989 rfl rfl (Nat.le_of_ble_eq_true rfl) rfl ?_
                                                            refine i_icmp_eq (tgt := 1120) S dL_law_992 (by decide) (fun q216 => ?_) (fun q216 => ?_)
                                                            · replace h := (if_pos q216).symm.trans h
                                                              have hz := hj3 _ (Option.some.inj h).symm
                                                              exact hz
                                                            · replace h := (if_neg q216).symm.trans h
                                                              replace h := ho3 _ (Option.some.inj h).symm
                                                              refine i_mask (L1 := [none, none, none, none]) S [false, false, false, false] rfl ?_
                                                              have hz := hE _ (Option.some.inj h).symm
                                                              exact hz
                                                          · replace h := (if_neg q209).symm.trans h
                                                            by_cases q217 : ((xs (ix s.1)) &&& (31 : Int32)) = 28
                                                            · replace h := (if_pos q217).symm.trans h
                                                              refine i_tswIn (tgt := 997) (off := 964) S dL_law_33 (by rw [q217]; decide) (by rw [q217]; decide) (by rw [q217]; decide) (by decide) ?_
                                                              refine i_aload_n S dL_law_997 rfl ?_
                                                              refine i_aload_n S dL_law_998 rfl ?_
                                                              refine i_iload_n S dL_law_999 rfl ?_
                                                              refine i_iconst (v := 1) S dL_law_1000 ic_1 ?_
                                                              refine i_iadd S dL_law_1001 ?_
                                                              obtain ⟨hi218, h⟩ := gd h
                                                              refine hX.1 dL_law_1002 hi218 ?_
                                                              refine i_aload_n S dL_law_1003 rfl ?_
                                                              refine i_iload_n S dL_law_1004 rfl ?_
                                                              refine i_iconst (v := 2) S dL_law_1005 ic_2 ?_
                                                              refine i_iadd S dL_law_1006 ?_
                                                              obtain ⟨hi219, h⟩ := gd h
                                                              refine hX.1 dL_law_1007 hi219 ?_
                                                              obtain ⟨hL220, h⟩ := onLn h
                                                              obtain ⟨p221, e221, h⟩ := bn h
                                                              refine i_callV (As := [.int (xs (ix (s.1 + (1 : Int32)))), .int (xs (ix (s.1 + (2 : Int32))))]) (st1 := [.int p221.1]) S (c_X11_lawIs g (d + 198) hL220 e221) mw_X11_lawIs lk_L_135 im_X11_lawIs se_X11_lawIs ci_11.1 ci_11.2.1 (k0 hL220) dL_law_1008 rfl rfl (Nat.le_of_ble_eq_true rfl) rfl ?_
                                                              refine i_aload_n S dL_law_1011 rfl ?_
                                                              refine i_aload_n S dL_law_1012 rfl ?_
                                                              refine i_iload_n S dL_law_1013 rfl ?_
                                                              refine i_iconst (v := 1) S dL_law_1014 ic_1 ?_
                                                              refine i_iadd S dL_law_1015 ?_
                                                              refine hX.1 dL_law_1016 hi218 ?_
                                                              refine i_aload_n S dL_law_1017 rfl ?_
                                                              refine i_iload_n S dL_law_1018 rfl ?_
                                                              refine i_iconst (v := 2) S dL_law_1019 ic_2 ?_
                                                              refine i_iadd S dL_law_1020 ?_
                                                              refine hX.1 dL_law_1021 hi219 ?_
                                                              obtain ⟨hL222, h⟩ := onLn h
                                                              obtain ⟨p223, e223, h⟩ := bn h
                                                              refine i_callV (As := [.int (xs (ix (s.1 + (1 : Int32)))), .int (xs (ix (s.1 + (2 : Int32))))]) (st1 := [.int p223.1, .int p221.1]) S (c_X12_lawIs g (d + 198) hL222 e223) mw_X12_lawIs lk_L_138 im_X12_lawIs se_X12_lawIs ci_12.1 ci_12.2.1 (k47 hL222) dL_law_1022 rfl rfl (Nat.le_of_ble_eq_true rfl) rfl ?_
                                                              refine i_icmp_eq (tgt := 1120) S dL_law_1025 (by decide) (fun q224 => ?_) (fun q224 => ?_)
                                                              · replace h := (if_pos q224).symm.trans h
                                                                have hz := hj3 _ (Option.some.inj h).symm
                                                                exact hz
                                                              · replace h := (if_neg q224).symm.trans h
                                                                replace h := ho3 _ (Option.some.inj h).symm
                                                                refine i_mask (L1 := [none, none, none, none]) S [false, false, false, false] rfl ?_
                                                                have hz := hE _ (Option.some.inj h).symm
                                                                exact hz
                                                            · replace h := (if_neg q217).symm.trans h
                                                              by_cases q225 : ((xs (ix s.1)) &&& (31 : Int32)) = 29
                                                              · replace h := (if_pos q225).symm.trans h
                                                                refine i_tswIn (tgt := 1030) (off := 997) S dL_law_33 (by rw [q225]; decide) (by rw [q225]; decide) (by rw [q225]; decide) (by decide) ?_
                                                                refine i_aload_n S dL_law_1030 rfl ?_
                                                                refine i_aload_n S dL_law_1031 rfl ?_
                                                                refine i_iload_n S dL_law_1032 rfl ?_
                                                                refine i_iconst (v := 1) S dL_law_1033 ic_1 ?_
                                                                refine i_iadd S dL_law_1034 ?_
                                                                obtain ⟨hi226, h⟩ := gd h
                                                                refine hX.1 dL_law_1035 hi226 ?_
                                                                refine i_aload_n S dL_law_1036 rfl ?_
                                                                refine i_iload_n S dL_law_1037 rfl ?_
                                                                refine i_iconst (v := 2) S dL_law_1038 ic_2 ?_
                                                                refine i_iadd S dL_law_1039 ?_
                                                                obtain ⟨hi227, h⟩ := gd h
                                                                refine hX.1 dL_law_1040 hi227 ?_
                                                                obtain ⟨hL228, h⟩ := onLn h
                                                                obtain ⟨p229, e229, h⟩ := bn h
                                                                refine i_callV (As := [.int (xs (ix (s.1 + (1 : Int32)))), .int (xs (ix (s.1 + (2 : Int32))))]) (st1 := [.long p229.1]) S (c_X11_madeUp g (d + 197) hL228 e229) mw_X11_madeUp lk_L_139 im_X11_madeUp se_X11_madeUp ci_11.1 ci_11.2.1 (k0 hL228) dL_law_1041 rfl rfl (Nat.le_of_ble_eq_true rfl) rfl ?_
                                                                refine i_aload_n S dL_law_1044 rfl ?_
                                                                refine i_aload_n S dL_law_1045 rfl ?_
                                                                refine i_iload_n S dL_law_1046 rfl ?_
                                                                refine i_iconst (v := 1) S dL_law_1047 ic_1 ?_
                                                                refine i_iadd S dL_law_1048 ?_
                                                                refine hX.1 dL_law_1049 hi226 ?_
                                                                refine i_aload_n S dL_law_1050 rfl ?_
                                                                refine i_iload_n S dL_law_1051 rfl ?_
                                                                refine i_iconst (v := 2) S dL_law_1052 ic_2 ?_
                                                                refine i_iadd S dL_law_1053 ?_
                                                                refine hX.1 dL_law_1054 hi227 ?_
                                                                obtain ⟨hL230, h⟩ := onLn h
                                                                obtain ⟨p231, e231, h⟩ := bn h
                                                                refine i_callV (As := [.int (xs (ix (s.1 + (1 : Int32)))), .int (xs (ix (s.1 + (2 : Int32))))]) (st1 := [.long p231.1, .long p229.1]) S (c_X12_madeUp g (d + 193) hL230 e231) mw_X12_madeUp lk_L_142 im_X12_madeUp se_X12_madeUp ci_12.1 ci_12.2.1 (k47 hL230) dL_law_1055 rfl rfl (Nat.le_of_ble_eq_true rfl) rfl ?_
                                                                refine i_lc_eq (tgt := 1120) S dL_law_1058 dL_law_1059 (by decide) (fun q232 => ?_) (fun q232 => ?_)
                                                                · replace h := (if_pos q232).symm.trans h
                                                                  have hz := hj3 _ (Option.some.inj h).symm
                                                                  exact hz
                                                                · replace h := (if_neg q232).symm.trans h
                                                                  replace h := ho3 _ (Option.some.inj h).symm
                                                                  refine i_mask (L1 := [none, none, none, none]) S [false, false, false, false] rfl ?_
                                                                  have hz := hE _ (Option.some.inj h).symm
                                                                  exact hz
                                                              · replace h := (if_neg q225).symm.trans h
                                                                by_cases q233 : ((xs (ix s.1)) &&& (31 : Int32)) = 30
                                                                · replace h := (if_pos q233).symm.trans h
                                                                  refine i_tswIn (tgt := 1064) (off := 1031) S dL_law_33 (by rw [q233]; decide) (by rw [q233]; decide) (by rw [q233]; decide) (by decide) ?_
                                                                  refine i_aload_n S dL_law_1064 rfl ?_
                                                                  refine i_aload_n S dL_law_1065 rfl ?_
                                                                  refine i_iload_n S dL_law_1066 rfl ?_
                                                                  refine i_iconst (v := 1) S dL_law_1067 ic_1 ?_
                                                                  refine i_iadd S dL_law_1068 ?_
                                                                  obtain ⟨hi234, h⟩ := gd h
                                                                  refine hX.1 dL_law_1069 hi234 ?_
                                                                  refine i_aload_n S dL_law_1070 rfl ?_
                                                                  refine i_iload_n S dL_law_1071 rfl ?_
                                                                  refine i_iconst (v := 2) S dL_law_1072 ic_2 ?_
                                                                  refine i_iadd S dL_law_1073 ?_
                                                                  obtain ⟨hi235, h⟩ := gd h
                                                                  refine hX.1 dL_law_1074 hi235 ?_
                                                                  obtain ⟨hL236, h⟩ := onLn h
                                                                  obtain ⟨p237, e237, h⟩ := bn h
                                                                  refine i_callV (As := [.int (xs (ix (s.1 + (1 : Int32)))), .int (xs (ix (s.1 + (2 : Int32))))]) (st1 := [.int p237.1]) S (c_X11_check g (d + 198) hL236 e237) mw_X11_check lk_L_143 im_X11_check se_X11_check ci_11.1 ci_11.2.1 (k0 hL236) dL_law_1075 rfl rfl (Nat.le_of_ble_eq_true rfl) rfl ?_
                                                                  refine i_aload_n S dL_law_1078 rfl ?_
                                                                  refine i_aload_n S dL_law_1079 rfl ?_
                                                                  refine i_iload_n S dL_law_1080 rfl ?_
                                                                  refine i_iconst (v := 1) S dL_law_1081 ic_1 ?_
                                                                  refine i_iadd S dL_law_1082 ?_
                                                                  refine hX.1 dL_law_1083 hi234 ?_
                                                                  refine i_aload_n S dL_law_1084 rfl ?_
                                                                  refine i_iload_n S dL_law_1085 rfl ?_
                                                                  refine i_iconst (v := 2) S dL_law_1086 ic_2 ?_
                                                                  refine i_iadd S dL_law_1087 ?_
                                                                  refine hX.1 dL_law_1088 hi235 ?_
                                                                  obtain ⟨hL238, h⟩ := onLn h
                                                                  obtain ⟨p239, e239, h⟩ := bn h
                                                                  refine i_callV (As := [.int (xs (ix (s.1 + (1 : Int32)))), .int (xs (ix (s.1 + (2 : Int32))))]) (st1 := [.int p239.1, .int p237.1]) S (c_X12_check g (d + 197) hL238 e239) mw_X12_check lk_L_146 im_X12_check se_X12_check ci_12.1 ci_12.2.1 (k47 hL238) dL_law_1089 rfl rfl (Nat.le_of_ble_eq_true rfl) rfl ?_
                                                                  refine i_icmp_eq (tgt := 1120) S dL_law_1092 (by decide) (fun q240 => ?_) (fun q240 => ?_)
                                                                  · replace h := (if_pos q240).symm.trans h
                                                                    have hz := hj3 _ (Option.some.inj h).symm
                                                                    exact hz
                                                                  · replace h := (if_neg q240).symm.trans h
                                                                    replace h := ho3 _ (Option.some.inj h).symm
                                                                    refine i_mask (L1 := [none, none, none, none]) S [false, false, false, false] rfl ?_
                                                                    have hz := hE _ (Option.some.inj h).symm
                                                                    exact hz
                                                                · replace h := (if_neg q233).symm.trans h
                                                                  by_cases q241 : ((xs (ix s.1)) &&& (31 : Int32)) = 31
                                                                  · replace h := (if_pos q241).symm.trans h
                                                                    refine i_tswIn (tgt := 1097) (off := 1064) S dL_law_33 (by rw [q241]; decide) (by rw [q241]; decide) (by rw [q241]; decide) (by decide) ?_
                                                                    refine i_aload_n S dL_law_1097 rfl ?_
                                                                    refine i_aload_n S dL_law_1098 rfl ?_
                                                                    refine i_iload_n S dL_law_1099 rfl ?_
                                                                    refine i_iconst (v := 1) S dL_law_1100 ic_1 ?_
                                                                    refine i_iadd S dL_law_1101 ?_
                                                                    obtain ⟨hi242, h⟩ := gd h
                                                                    refine hX.1 dL_law_1102 hi242 ?_
                                                                    obtain ⟨hL243, h⟩ := onLn h
                                                                    obtain ⟨p244, e244, h⟩ := bn h
                                                                    refine i_callV (As := [.int (xs (ix (s.1 + (1 : Int32))))]) (st1 := [.int p244]) S (c_X11_count g (d + 201) hL243 e244) mw_X11_count lk_L_147 im_X11_count se_X11_count ci_11.1 ci_11.2.1 (k0 hL243) dL_law_1103 rfl rfl (Nat.le_of_ble_eq_true rfl) rfl ?_
                                                                    refine i_aload_n S dL_law_1106 rfl ?_
                                                                    refine i_aload_n S dL_law_1107 rfl ?_
                                                                    refine i_iload_n S dL_law_1108 rfl ?_
                                                                    refine i_iconst (v := 1) S dL_law_1109 ic_1 ?_
                                                                    refine i_iadd S dL_law_1110 ?_
                                                                    refine hX.1 dL_law_1111 hi242 ?_
                                                                    obtain ⟨p245, e245, h⟩ := bn h
                                                                    refine i_callV (As := [.int (xs (ix (s.1 + (1 : Int32))))]) (st1 := [.int p245, .int p244]) S (c_X12_count g (d + 201) hL243 e245) mw_X12_count lk_L_150 im_X12_count se_X12_count ci_12.1 ci_12.2.1 (k47 hL243) dL_law_1112 rfl rfl (Nat.le_of_ble_eq_true rfl) rfl ?_
                                                                    refine i_icmp_eq (tgt := 1120) S dL_law_1115 (by decide) (fun q246 => ?_) (fun q246 => ?_)
                                                                    · replace h := (if_pos q246).symm.trans h
                                                                      have hz := hj3 _ (Option.some.inj h).symm
                                                                      exact hz
                                                                    · replace h := (if_neg q246).symm.trans h
                                                                      replace h := ho3 _ (Option.some.inj h).symm
                                                                      refine i_mask (L1 := [none, none, none, none]) S [false, false, false, false] rfl ?_
                                                                      have hz := hE _ (Option.some.inj h).symm
                                                                      exact hz
                                                                  · replace h := (if_neg q241).symm.trans h
                                                                    refine i_tswD (tgt := 1120) S dL_law_33 (by decide) (fun j hj => match j, hj with | 0, _ => Or.inr (tsne q4 (by decide)) | 1, _ => Or.inr (tsne q13 (by decide)) | 2, _ => Or.inr (tsne q21 (by decide)) | 3, _ => Or.inr (tsne q31 (by decide)) | 4, _ => Or.inr (tsne q39 (by decide)) | 5, _ => Or.inr (tsne q46 (by decide)) | 6, _ => Or.inr (tsne q57 (by decide)) | 7, _ => Or.inr (tsne q64 (by decide)) | 8, _ => Or.inr (tsne q72 (by decide)) | 9, _ => Or.inr (tsne q81 (by decide)) | 10, _ => Or.inr (tsne q90 (by decide)) | 11, _ => Or.inr (tsne q98 (by decide)) | 12, _ => Or.inr (tsne q105 (by decide)) | 13, _ => Or.inr (tsne q112 (by decide)) | 14, _ => Or.inr (tsne q119 (by decide)) | 15, _ => Or.inr (tsne q125 (by decide)) | 16, _ => Or.inr (tsne q132 (by decide)) | 17, _ => Or.inr (tsne q139 (by decide)) | 18, _ => Or.inr (tsne q147 (by decide)) | 19, _ => Or.inr (tsne q154 (by decide)) | 20, _ => Or.inr (tsne q162 (by decide)) | 21, _ => Or.inr (tsne q168 (by decide)) | 22, _ => Or.inr (tsne q176 (by decide)) | 23, _ => Or.inr (tsne q183 (by decide)) | 24, _ => Or.inr (tsne q190 (by decide)) | 25, _ => Or.inr (tsne q197 (by decide)) | 26, _ => Or.inr (tsne q203 (by decide)) | 27, _ => Or.inr (tsne q209 (by decide)) | 28, _ => Or.inr (tsne q217 (by decide)) | 29, _ => Or.inr (tsne q225 (by decide)) | 30, _ => Or.inr (tsne q233 (by decide)) | 31, _ => Or.inr (tsne q241 (by decide)) | j + 32, hj => absurd hj (by show ¬ j + 32 < 32; omega)) (by decide) ?_
                                                                    have hz := hj3 _ (Option.some.inj h).symm
                                                                    exact hz
set_option maxHeartbeats 4000000 in
set_option maxRecDepth 100000 in
theorem c_L_law {g : Gx} {d : Nat} {V : Vt} {b n : Nat} {xs : Nat → Int32} {w : Mm} {p : Int32 × Mm} (S : MachB g yL_law cL_law 4 (d + 204) V) (hX : ScrX cL_law V b n xs) (hR : ∀ pc L, decode cL_law pc = .ok (.ireturn, 1) → V pc L [.int p.1] p.2) (h : f_L_law n xs w = some p) : V 0 [some (.ref b), none, none, none] [] w := by
  unfold f_L_law at h
  obtain ⟨p1, e1, h⟩ := bn h
  refine i_newq S CL_L_7 e1 dL_law_0 ?_
  refine i_dup S dL_law_3 rfl ?_
  obtain ⟨p2, e2, h⟩ := bn h
  refine i_callI (As := []) (st1 := [rf g p1.1]) S (c_X11_init g (d + 201) e2) mw_X11_init rfl rfl lk_L_9 im_X11_init dL_law_4 rfl rfl (Nat.le_of_ble_eq_true rfl) rfl ?_
  obtain ⟨hz3, h⟩ := gd h
  rw [hz3]
  refine i_astore_n (L1 := [some (.ref b), some (rf g 0), none, none]) S dL_law_7 (by decide) rfl ?_
  obtain ⟨p4, e4, h⟩ := bn h
  refine i_newq S CL_L_10 e4 dL_law_8 ?_
  refine i_dup S dL_law_11 rfl ?_
  obtain ⟨p5, e5, h⟩ := bn h
  refine i_callI (As := []) (st1 := [rf g p4.1]) S (c_X12_init g (d + 203) e5) mw_X12_init rfl rfl lk_L_12 im_X12_init dL_law_12 rfl rfl (Nat.le_of_ble_eq_true rfl) rfl ?_
  obtain ⟨hz6, h⟩ := gd h
  rw [hz6]
  refine i_astore_n (L1 := [some (.ref b), some (rf g 0), some (rf g 47), none]) S dL_law_15 (by decide) rfl ?_
  refine i_iconst (v := 0) S dL_law_16 ic_0 ?_
  refine i_istore_n (L1 := [some (.ref b), some (rf g 0), some (rf g 47), some (.int ((0 : Int32)))]) S dL_law_17 (by decide) rfl ?_
  obtain ⟨p7, e7, h⟩ := bn h
  have hE7 : if p7.1 = 0 then V 1126 [none, none, none, none] [] p7.2 else (if p7.1 = 1 then V 217 [none, none, none, none] [] p7.2 else (if p7.1 = 2 then V 250 [none, none, none, none] [] p7.2 else (if p7.1 = 3 then V 303 [none, none, none, none] [] p7.2 else (if p7.1 = 4 then V 336 [none, none, none, none] [] p7.2 else (if p7.1 = 5 then V 359 [none, none, none, none] [] p7.2 else (if p7.1 = 6 then V 422 [none, none, none, none] [] p7.2 else (if p7.1 = 7 then V 445 [none, none, none, none] [] p7.2 else (if p7.1 = 8 then V 478 [none, none, none, none] [] p7.2 else (if p7.1 = 9 then V 521 [none, none, none, none] [] p7.2 else (if p7.1 = 10 then V 564 [none, none, none, none] [] p7.2 else (if p7.1 = 11 then V 598 [none, none, none, none] [] p7.2 else (if p7.1 = 12 then V 621 [none, none, none, none] [] p7.2 else (if p7.1 = 13 then V 644 [none, none, none, none] [] p7.2 else (if p7.1 = 14 then V 668 [none, none, none, none] [] p7.2 else (if p7.1 = 15 then V 681 [none, none, none, none] [] p7.2 else (if p7.1 = 16 then V 704 [none, none, none, none] [] p7.2 else (if p7.1 = 17 then V 727 [none, none, none, none] [] p7.2 else (if p7.1 = 18 then V 761 [none, none, none, none] [] p7.2 else (if p7.1 = 19 then V 785 [none, none, none, none] [] p7.2 else (if p7.1 = 20 then V 819 [none, none, none, none] [] p7.2 else (if p7.1 = 21 then V 832 [none, none, none, none] [] p7.2 else (if p7.1 = 22 then V 866 [none, none, none, none] [] p7.2 else (if p7.1 = 23 then V 890 [none, none, none, none] [] p7.2 else (if p7.1 = 24 then V 913 [none, none, none, none] [] p7.2 else (if p7.1 = 25 then V 936 [none, none, none, none] [] p7.2 else (if p7.1 = 26 then V 949 [none, none, none, none] [] p7.2 else (if p7.1 = 27 then V 962 [none, none, none, none] [] p7.2 else (if p7.1 = 28 then V 995 [none, none, none, none] [] p7.2 else (if p7.1 = 29 then V 1028 [none, none, none, none] [] p7.2 else (if p7.1 = 30 then V 1062 [none, none, none, none] [] p7.2 else (if p7.1 = 31 then V 1095 [none, none, none, none] [] p7.2 else (V 1118 [none, none, none, none] [] p7.2)))))))))))))))))))))))))))))))) := by
    by_cases hx7_0 : p7.1 = 0
    · rw [if_pos hx7_0]
      replace h := (if_pos hx7_0).symm.trans h
      refine i_iconst (v := 1) S dL_law_1126 ic_1 ?_
      cases h
      exact hR _ _ dL_law_1127
    · rw [if_neg hx7_0]
      replace h := (if_neg hx7_0).symm.trans h
      by_cases hx7_1 : p7.1 = 1
      · rw [if_pos hx7_1]
        replace h := (if_pos hx7_1).symm.trans h
        refine i_iconst (v := 0) S dL_law_217 ic_0 ?_
        cases h
        exact hR _ _ dL_law_218
      · rw [if_neg hx7_1]
        replace h := (if_neg hx7_1).symm.trans h
        by_cases hx7_2 : p7.1 = 2
        · rw [if_pos hx7_2]
          replace h := (if_pos hx7_2).symm.trans h
          refine i_iconst (v := 0) S dL_law_250 ic_0 ?_
          cases h
          exact hR _ _ dL_law_251
        · rw [if_neg hx7_2]
          replace h := (if_neg hx7_2).symm.trans h
          by_cases hx7_3 : p7.1 = 3
          · rw [if_pos hx7_3]
            replace h := (if_pos hx7_3).symm.trans h
            refine i_iconst (v := 0) S dL_law_303 ic_0 ?_
            cases h
            exact hR _ _ dL_law_304
          · rw [if_neg hx7_3]
            replace h := (if_neg hx7_3).symm.trans h
            by_cases hx7_4 : p7.1 = 4
            · rw [if_pos hx7_4]
              replace h := (if_pos hx7_4).symm.trans h
              refine i_iconst (v := 0) S dL_law_336 ic_0 ?_
              cases h
              exact hR _ _ dL_law_337
            · rw [if_neg hx7_4]
              replace h := (if_neg hx7_4).symm.trans h
              by_cases hx7_5 : p7.1 = 5
              · rw [if_pos hx7_5]
                replace h := (if_pos hx7_5).symm.trans h
                refine i_iconst (v := 0) S dL_law_359 ic_0 ?_
                cases h
                exact hR _ _ dL_law_360
              · rw [if_neg hx7_5]
                replace h := (if_neg hx7_5).symm.trans h
                by_cases hx7_6 : p7.1 = 6
                · rw [if_pos hx7_6]
                  replace h := (if_pos hx7_6).symm.trans h
                  refine i_iconst (v := 0) S dL_law_422 ic_0 ?_
                  cases h
                  exact hR _ _ dL_law_423
                · rw [if_neg hx7_6]
                  replace h := (if_neg hx7_6).symm.trans h
                  by_cases hx7_7 : p7.1 = 7
                  · rw [if_pos hx7_7]
                    replace h := (if_pos hx7_7).symm.trans h
                    refine i_iconst (v := 0) S dL_law_445 ic_0 ?_
                    cases h
                    exact hR _ _ dL_law_446
                  · rw [if_neg hx7_7]
                    replace h := (if_neg hx7_7).symm.trans h
                    by_cases hx7_8 : p7.1 = 8
                    · rw [if_pos hx7_8]
                      replace h := (if_pos hx7_8).symm.trans h
                      refine i_iconst (v := 0) S dL_law_478 ic_0 ?_
                      cases h
                      exact hR _ _ dL_law_479
                    · rw [if_neg hx7_8]
                      replace h := (if_neg hx7_8).symm.trans h
                      by_cases hx7_9 : p7.1 = 9
                      · rw [if_pos hx7_9]
                        replace h := (if_pos hx7_9).symm.trans h
                        refine i_iconst (v := 0) S dL_law_521 ic_0 ?_
                        cases h
                        exact hR _ _ dL_law_522
                      · rw [if_neg hx7_9]
                        replace h := (if_neg hx7_9).symm.trans h
                        by_cases hx7_10 : p7.1 = 10
                        · rw [if_pos hx7_10]
                          replace h := (if_pos hx7_10).symm.trans h
                          refine i_iconst (v := 0) S dL_law_564 ic_0 ?_
                          cases h
                          exact hR _ _ dL_law_565
                        · rw [if_neg hx7_10]
                          replace h := (if_neg hx7_10).symm.trans h
                          by_cases hx7_11 : p7.1 = 11
                          · rw [if_pos hx7_11]
                            replace h := (if_pos hx7_11).symm.trans h
                            refine i_iconst (v := 0) S dL_law_598 ic_0 ?_
                            cases h
                            exact hR _ _ dL_law_599
                          · rw [if_neg hx7_11]
                            replace h := (if_neg hx7_11).symm.trans h
                            by_cases hx7_12 : p7.1 = 12
                            · rw [if_pos hx7_12]
                              replace h := (if_pos hx7_12).symm.trans h
                              refine i_iconst (v := 0) S dL_law_621 ic_0 ?_
                              cases h
                              exact hR _ _ dL_law_622
                            · rw [if_neg hx7_12]
                              replace h := (if_neg hx7_12).symm.trans h
                              by_cases hx7_13 : p7.1 = 13
                              · rw [if_pos hx7_13]
                                replace h := (if_pos hx7_13).symm.trans h
                                refine i_iconst (v := 0) S dL_law_644 ic_0 ?_
                                cases h
                                exact hR _ _ dL_law_645
                              · rw [if_neg hx7_13]
                                replace h := (if_neg hx7_13).symm.trans h
                                by_cases hx7_14 : p7.1 = 14
                                · rw [if_pos hx7_14]
                                  replace h := (if_pos hx7_14).symm.trans h
                                  refine i_iconst (v := 0) S dL_law_668 ic_0 ?_
                                  cases h
                                  exact hR _ _ dL_law_669
                                · rw [if_neg hx7_14]
                                  replace h := (if_neg hx7_14).symm.trans h
                                  by_cases hx7_15 : p7.1 = 15
                                  · rw [if_pos hx7_15]
                                    replace h := (if_pos hx7_15).symm.trans h
                                    refine i_iconst (v := 0) S dL_law_681 ic_0 ?_
                                    cases h
                                    exact hR _ _ dL_law_682
                                  · rw [if_neg hx7_15]
                                    replace h := (if_neg hx7_15).symm.trans h
                                    by_cases hx7_16 : p7.1 = 16
                                    · rw [if_pos hx7_16]
                                      replace h := (if_pos hx7_16).symm.trans h
                                      refine i_iconst (v := 0) S dL_law_704 ic_0 ?_
                                      cases h
                                      exact hR _ _ dL_law_705
                                    · rw [if_neg hx7_16]
                                      replace h := (if_neg hx7_16).symm.trans h
                                      by_cases hx7_17 : p7.1 = 17
                                      · rw [if_pos hx7_17]
                                        replace h := (if_pos hx7_17).symm.trans h
                                        refine i_iconst (v := 0) S dL_law_727 ic_0 ?_
                                        cases h
                                        exact hR _ _ dL_law_728
                                      · rw [if_neg hx7_17]
                                        replace h := (if_neg hx7_17).symm.trans h
                                        by_cases hx7_18 : p7.1 = 18
                                        · rw [if_pos hx7_18]
                                          replace h := (if_pos hx7_18).symm.trans h
                                          refine i_iconst (v := 0) S dL_law_761 ic_0 ?_
                                          cases h
                                          exact hR _ _ dL_law_762
                                        · rw [if_neg hx7_18]
                                          replace h := (if_neg hx7_18).symm.trans h
                                          by_cases hx7_19 : p7.1 = 19
                                          · rw [if_pos hx7_19]
                                            replace h := (if_pos hx7_19).symm.trans h
                                            refine i_iconst (v := 0) S dL_law_785 ic_0 ?_
                                            cases h
                                            exact hR _ _ dL_law_786
                                          · rw [if_neg hx7_19]
                                            replace h := (if_neg hx7_19).symm.trans h
                                            by_cases hx7_20 : p7.1 = 20
                                            · rw [if_pos hx7_20]
                                              replace h := (if_pos hx7_20).symm.trans h
                                              refine i_iconst (v := 0) S dL_law_819 ic_0 ?_
                                              cases h
                                              exact hR _ _ dL_law_820
                                            · rw [if_neg hx7_20]
                                              replace h := (if_neg hx7_20).symm.trans h
                                              by_cases hx7_21 : p7.1 = 21
                                              · rw [if_pos hx7_21]
                                                replace h := (if_pos hx7_21).symm.trans h
                                                refine i_iconst (v := 0) S dL_law_832 ic_0 ?_
                                                cases h
                                                exact hR _ _ dL_law_833
                                              · rw [if_neg hx7_21]
                                                replace h := (if_neg hx7_21).symm.trans h
                                                by_cases hx7_22 : p7.1 = 22
                                                · rw [if_pos hx7_22]
                                                  replace h := (if_pos hx7_22).symm.trans h
                                                  refine i_iconst (v := 0) S dL_law_866 ic_0 ?_
                                                  cases h
                                                  exact hR _ _ dL_law_867
                                                · rw [if_neg hx7_22]
                                                  replace h := (if_neg hx7_22).symm.trans h
                                                  by_cases hx7_23 : p7.1 = 23
                                                  · rw [if_pos hx7_23]
                                                    replace h := (if_pos hx7_23).symm.trans h
                                                    refine i_iconst (v := 0) S dL_law_890 ic_0 ?_
                                                    cases h
                                                    exact hR _ _ dL_law_891
                                                  · rw [if_neg hx7_23]
                                                    replace h := (if_neg hx7_23).symm.trans h
                                                    by_cases hx7_24 : p7.1 = 24
                                                    · rw [if_pos hx7_24]
                                                      replace h := (if_pos hx7_24).symm.trans h
                                                      refine i_iconst (v := 0) S dL_law_913 ic_0 ?_
                                                      cases h
                                                      exact hR _ _ dL_law_914
                                                    · rw [if_neg hx7_24]
                                                      replace h := (if_neg hx7_24).symm.trans h
                                                      by_cases hx7_25 : p7.1 = 25
                                                      · rw [if_pos hx7_25]
                                                        replace h := (if_pos hx7_25).symm.trans h
                                                        refine i_iconst (v := 0) S dL_law_936 ic_0 ?_
                                                        cases h
                                                        exact hR _ _ dL_law_937
                                                      · rw [if_neg hx7_25]
                                                        replace h := (if_neg hx7_25).symm.trans h
                                                        by_cases hx7_26 : p7.1 = 26
                                                        · rw [if_pos hx7_26]
                                                          replace h := (if_pos hx7_26).symm.trans h
                                                          refine i_iconst (v := 0) S dL_law_949 ic_0 ?_
                                                          cases h
                                                          exact hR _ _ dL_law_950
                                                        · rw [if_neg hx7_26]
                                                          replace h := (if_neg hx7_26).symm.trans h
                                                          by_cases hx7_27 : p7.1 = 27
                                                          · rw [if_pos hx7_27]
                                                            replace h := (if_pos hx7_27).symm.trans h
                                                            refine i_iconst (v := 0) S dL_law_962 ic_0 ?_
                                                            cases h
                                                            exact hR _ _ dL_law_963
                                                          · rw [if_neg hx7_27]
                                                            replace h := (if_neg hx7_27).symm.trans h
                                                            by_cases hx7_28 : p7.1 = 28
                                                            · rw [if_pos hx7_28]
                                                              replace h := (if_pos hx7_28).symm.trans h
                                                              refine i_iconst (v := 0) S dL_law_995 ic_0 ?_
                                                              cases h
                                                              exact hR _ _ dL_law_996
                                                            · rw [if_neg hx7_28]
                                                              replace h := (if_neg hx7_28).symm.trans h
                                                              by_cases hx7_29 : p7.1 = 29
                                                              · rw [if_pos hx7_29]
                                                                replace h := (if_pos hx7_29).symm.trans h
                                                                refine i_iconst (v := 0) S dL_law_1028 ic_0 ?_
                                                                cases h
                                                                exact hR _ _ dL_law_1029
                                                              · rw [if_neg hx7_29]
                                                                replace h := (if_neg hx7_29).symm.trans h
                                                                by_cases hx7_30 : p7.1 = 30
                                                                · rw [if_pos hx7_30]
                                                                  replace h := (if_pos hx7_30).symm.trans h
                                                                  refine i_iconst (v := 0) S dL_law_1062 ic_0 ?_
                                                                  cases h
                                                                  exact hR _ _ dL_law_1063
                                                                · rw [if_neg hx7_30]
                                                                  replace h := (if_neg hx7_30).symm.trans h
                                                                  by_cases hx7_31 : p7.1 = 31
                                                                  · rw [if_pos hx7_31]
                                                                    replace h := (if_pos hx7_31).symm.trans h
                                                                    refine i_iconst (v := 0) S dL_law_1095 ic_0 ?_
                                                                    cases h
                                                                    exact hR _ _ dL_law_1096
                                                                  · rw [if_neg hx7_31]
                                                                    replace h := (if_neg hx7_31).symm.trans h
                                                                    refine i_iconst (v := 0) S dL_law_1118 ic_0 ?_
                                                                    cases h
                                                                    exact hR _ _ dL_law_1119
  exact wh_V (P := fun sv7 => V 18 [some (.ref b), some (rf g 0), some (rf g 47), some (.int sv7.1)] [] sv7.2) (E := fun xv7 => if xv7.1 = 0 then V 1126 [none, none, none, none] [] xv7.2 else (if xv7.1 = 1 then V 217 [none, none, none, none] [] xv7.2 else (if xv7.1 = 2 then V 250 [none, none, none, none] [] xv7.2 else (if xv7.1 = 3 then V 303 [none, none, none, none] [] xv7.2 else (if xv7.1 = 4 then V 336 [none, none, none, none] [] xv7.2 else (if xv7.1 = 5 then V 359 [none, none, none, none] [] xv7.2 else (if xv7.1 = 6 then V 422 [none, none, none, none] [] xv7.2 else (if xv7.1 = 7 then V 445 [none, none, none, none] [] xv7.2 else (if xv7.1 = 8 then V 478 [none, none, none, none] [] xv7.2 else (if xv7.1 = 9 then V 521 [none, none, none, none] [] xv7.2 else (if xv7.1 = 10 then V 564 [none, none, none, none] [] xv7.2 else (if xv7.1 = 11 then V 598 [none, none, none, none] [] xv7.2 else (if xv7.1 = 12 then V 621 [none, none, none, none] [] xv7.2 else (if xv7.1 = 13 then V 644 [none, none, none, none] [] xv7.2 else (if xv7.1 = 14 then V 668 [none, none, none, none] [] xv7.2 else (if xv7.1 = 15 then V 681 [none, none, none, none] [] xv7.2 else (if xv7.1 = 16 then V 704 [none, none, none, none] [] xv7.2 else (if xv7.1 = 17 then V 727 [none, none, none, none] [] xv7.2 else (if xv7.1 = 18 then V 761 [none, none, none, none] [] xv7.2 else (if xv7.1 = 19 then V 785 [none, none, none, none] [] xv7.2 else (if xv7.1 = 20 then V 819 [none, none, none, none] [] xv7.2 else (if xv7.1 = 21 then V 832 [none, none, none, none] [] xv7.2 else (if xv7.1 = 22 then V 866 [none, none, none, none] [] xv7.2 else (if xv7.1 = 23 then V 890 [none, none, none, none] [] xv7.2 else (if xv7.1 = 24 then V 913 [none, none, none, none] [] xv7.2 else (if xv7.1 = 25 then V 936 [none, none, none, none] [] xv7.2 else (if xv7.1 = 26 then V 949 [none, none, none, none] [] xv7.2 else (if xv7.1 = 27 then V 962 [none, none, none, none] [] xv7.2 else (if xv7.1 = 28 then V 995 [none, none, none, none] [] xv7.2 else (if xv7.1 = 29 then V 1028 [none, none, none, none] [] xv7.2 else (if xv7.1 = 30 then V 1062 [none, none, none, none] [] xv7.2 else (if xv7.1 = 31 then V 1095 [none, none, none, none] [] xv7.2 else (V 1118 [none, none, none, none] [] xv7.2))))))))))))))))))))))))))))))))) (fun sv7 ev hb hc he => t_l_L_law_18   S hX sv7 ev hb hc he) FUEL _ _ e7 hE7
