set_option maxRecDepth 100000 in
theorem vc_L_law_10 {E : mEv} {d : Nat}  (v1 : Nat) (v2 : Nat) (v3 : Int32) {mu : fMu} {la : fLa} {Q : Int32 → fMu → fLa → Prop} (h : (((Int32.ofNat E.1) - (6 : Int32)) < v3 → (Q (1 : Int32) mu la)) ∧ (¬ (((Int32.ofNat E.1) - (6 : Int32)) < v3) → (vp_in v3 E.1 ∧ ((((E.2.1 v3.toNatClampNeg) &&& (63 : Int32)) = 0 → (vp_in (v3 + (1 : Int32)) E.1 ∧ (vp_in (v3 + (2 : Int32)) E.1 ∧ (FnI E d mi_50 [.inr (.inr (some (6, v1))), .inl (E.2.1 (v3 + (1 : Int32)).toNatClampNeg), .inl (E.2.1 (v3 + (2 : Int32)).toNatClampNeg)] mu la (fun x1 mu2 la3 => vp_in (v3 + (1 : Int32)) E.1 ∧ (vp_in (v3 + (2 : Int32)) E.1 ∧ (FnI E d mi_137 [.inr (.inr (some (7, v2))), .inl (E.2.1 (v3 + (1 : Int32)).toNatClampNeg), .inl (E.2.1 (v3 + (2 : Int32)).toNatClampNeg)] mu2 la3 (fun x4 mu5 la6 => (x1 = x4 → (Ev E (d + 1) mi_230 10 [some (.inr (.inr (some (100, 0)))), some (.inr (.inr (some (6, v1)))), some (.inr (.inr (some (7, v2)))), some (.inl (v3 + (6 : Int32)))] [] (mem E mu5 la6) (qI E Q))) ∧ (¬ (x1 = x4) → (Q (0 : Int32) mu5 la6)))))))))) ∧ (¬ ((E.2.1 v3.toNatClampNeg) &&& (63 : Int32)) = 0 → ((((E.2.1 v3.toNatClampNeg) &&& (63 : Int32)) = 1 → (vp_in (v3 + (1 : Int32)) E.1 ∧ (vp_in (v3 + (2 : Int32)) E.1 ∧ (vp_in (v3 + (3 : Int32)) E.1 ∧ (FnI E d mi_51 [.inr (.inr (some (6, v1))), .inl (E.2.1 (v3 + (1 : Int32)).toNatClampNeg), .inl (E.2.1 (v3 + (2 : Int32)).toNatClampNeg), .inl (E.2.1 (v3 + (3 : Int32)).toNatClampNeg)] mu la (fun x7 mu8 la9 => vp_in (v3 + (1 : Int32)) E.1 ∧ (vp_in (v3 + (2 : Int32)) E.1 ∧ (vp_in (v3 + (3 : Int32)) E.1 ∧ (FnI E d mi_138 [.inr (.inr (some (7, v2))), .inl (E.2.1 (v3 + (1 : Int32)).toNatClampNeg), .inl (E.2.1 (v3 + (2 : Int32)).toNatClampNeg), .inl (E.2.1 (v3 + (3 : Int32)).toNatClampNeg)] mu8 la9 (fun x10 mu11 la12 => (x7 = x10 → (Ev E (d + 1) mi_230 10 [some (.inr (.inr (some (100, 0)))), some (.inr (.inr (some (6, v1)))), some (.inr (.inr (some (7, v2)))), some (.inl (v3 + (6 : Int32)))] [] (mem E mu11 la12) (qI E Q))) ∧ (¬ (x7 = x10) → (Q (0 : Int32) mu11 la12)))))))))))) ∧ (¬ ((E.2.1 v3.toNatClampNeg) &&& (63 : Int32)) = 1 → ((((E.2.1 v3.toNatClampNeg) &&& (63 : Int32)) = 2 → (vp_in (v3 + (1 : Int32)) E.1 ∧ (vp_in (v3 + (2 : Int32)) E.1 ∧ (FnI E d mi_52 [.inr (.inr (some (6, v1))), .inl (E.2.1 (v3 + (1 : Int32)).toNatClampNeg), .inl (E.2.1 (v3 + (2 : Int32)).toNatClampNeg)] mu la (fun x13 mu14 la15 => vp_in (v3 + (1 : Int32)) E.1 ∧ (vp_in (v3 + (2 : Int32)) E.1 ∧ (FnI E d mi_139 [.inr (.inr (some (7, v2))), .inl (E.2.1 (v3 + (1 : Int32)).toNatClampNeg), .inl (E.2.1 (v3 + (2 : Int32)).toNatClampNeg)] mu14 la15 (fun x16 mu17 la18 => (x13 = x16 → (Ev E (d + 1) mi_230 10 [some (.inr (.inr (some (100, 0)))), some (.inr (.inr (some (6, v1)))), some (.inr (.inr (some (7, v2)))), some (.inl (v3 + (6 : Int32)))] [] (mem E mu17 la18) (qI E Q))) ∧ (¬ (x13 = x16) → (Q (0 : Int32) mu17 la18)))))))))) ∧ (¬ ((E.2.1 v3.toNatClampNeg) &&& (63 : Int32)) = 2 → ((((E.2.1 v3.toNatClampNeg) &&& (63 : Int32)) = 3 → (vp_in (v3 + (1 : Int32)) E.1 ∧ (FnI E d mi_53 [.inr (.inr (some (6, v1))), .inl (E.2.1 (v3 + (1 : Int32)).toNatClampNeg)] mu la (fun x19 mu20 la21 => vp_in (v3 + (1 : Int32)) E.1 ∧ (FnI E d mi_140 [.inr (.inr (some (7, v2))), .inl (E.2.1 (v3 + (1 : Int32)).toNatClampNeg)] mu20 la21 (fun x22 mu23 la24 => (x19 = x22 → (Ev E (d + 1) mi_230 10 [some (.inr (.inr (some (100, 0)))), some (.inr (.inr (some (6, v1)))), some (.inr (.inr (some (7, v2)))), some (.inl (v3 + (6 : Int32)))] [] (mem E mu23 la24) (qI E Q))) ∧ (¬ (x19 = x22) → (Q (0 : Int32) mu23 la24)))))))) ∧ (¬ ((E.2.1 v3.toNatClampNeg) &&& (63 : Int32)) = 3 → ((((E.2.1 v3.toNatClampNeg) &&& (63 : Int32)) = 4 → (vp_in (v3 + (1 : Int32)) E.1 ∧ (vp_in (v3 + (2 : Int32)) E.1 ∧ (vp_in (v3 + (3 : Int32)) E.1 ∧ (vp_in (v3 + (4 : Int32)) E.1 ∧ (vp_in (v3 + (5 : Int32)) E.1 ∧ (FnI E d mi_54 [.inr (.inr (some (6, v1))), .inl (E.2.1 (v3 + (1 : Int32)).toNatClampNeg), .inl (E.2.1 (v3 + (2 : Int32)).toNatClampNeg), .inl (E.2.1 (v3 + (3 : Int32)).toNatClampNeg), .inl (E.2.1 (v3 + (4 : Int32)).toNatClampNeg), .inl (E.2.1 (v3 + (5 : Int32)).toNatClampNeg)] mu la (fun x25 mu26 la27 => vp_in (v3 + (1 : Int32)) E.1 ∧ (vp_in (v3 + (2 : Int32)) E.1 ∧ (vp_in (v3 + (3 : Int32)) E.1 ∧ (vp_in (v3 + (4 : Int32)) E.1 ∧ (vp_in (v3 + (5 : Int32)) E.1 ∧ (FnI E d mi_141 [.inr (.inr (some (7, v2))), .inl (E.2.1 (v3 + (1 : Int32)).toNatClampNeg), .inl (E.2.1 (v3 + (2 : Int32)).toNatClampNeg), .inl (E.2.1 (v3 + (3 : Int32)).toNatClampNeg), .inl (E.2.1 (v3 + (4 : Int32)).toNatClampNeg), .inl (E.2.1 (v3 + (5 : Int32)).toNatClampNeg)] mu26 la27 (fun x28 mu29 la30 => (x25 = x28 → (Ev E (d + 1) mi_230 10 [some (.inr (.inr (some (100, 0)))), some (.inr (.inr (some (6, v1)))), some (.inr (.inr (some (7, v2)))), some (.inl (v3 + (6 : Int32)))] [] (mem E mu29 la30) (qI E Q))) ∧ (¬ (x25 = x28) → (Q (0 : Int32) mu29 la30)))))))))))))))) ∧ (¬ ((E.2.1 v3.toNatClampNeg) &&& (63 : Int32)) = 4 → ((((E.2.1 v3.toNatClampNeg) &&& (63 : Int32)) = 5 → (vp_in (v3 + (1 : Int32)) E.1 ∧ (FnI E d mi_55 [.inr (.inr (some (6, v1))), .inl (E.2.1 (v3 + (1 : Int32)).toNatClampNeg)] mu la (fun x31 mu32 la33 => vp_in (v3 + (1 : Int32)) E.1 ∧ (FnI E d mi_142 [.inr (.inr (some (7, v2))), .inl (E.2.1 (v3 + (1 : Int32)).toNatClampNeg)] mu32 la33 (fun x34 mu35 la36 => (x31 = x34 → (Ev E (d + 1) mi_230 10 [some (.inr (.inr (some (100, 0)))), some (.inr (.inr (some (6, v1)))), some (.inr (.inr (some (7, v2)))), some (.inl (v3 + (6 : Int32)))] [] (mem E mu35 la36) (qI E Q))) ∧ (¬ (x31 = x34) → (Q (0 : Int32) mu35 la36)))))))) ∧ (¬ ((E.2.1 v3.toNatClampNeg) &&& (63 : Int32)) = 5 → ((((E.2.1 v3.toNatClampNeg) &&& (63 : Int32)) = 6 → (vp_in (v3 + (1 : Int32)) E.1 ∧ (vp_in (v3 + (2 : Int32)) E.1 ∧ (FnI E d mi_56 [.inr (.inr (some (6, v1))), .inl (E.2.1 (v3 + (1 : Int32)).toNatClampNeg), .inl (E.2.1 (v3 + (2 : Int32)).toNatClampNeg)] mu la (fun x37 mu38 la39 => vp_in (v3 + (1 : Int32)) E.1 ∧ (vp_in (v3 + (2 : Int32)) E.1 ∧ (FnI E d mi_143 [.inr (.inr (some (7, v2))), .inl (E.2.1 (v3 + (1 : Int32)).toNatClampNeg), .inl (E.2.1 (v3 + (2 : Int32)).toNatClampNeg)] mu38 la39 (fun x40 mu41 la42 => (x37 = x40 → (Ev E (d + 1) mi_230 10 [some (.inr (.inr (some (100, 0)))), some (.inr (.inr (some (6, v1)))), some (.inr (.inr (some (7, v2)))), some (.inl (v3 + (6 : Int32)))] [] (mem E mu41 la42) (qI E Q))) ∧ (¬ (x37 = x40) → (Q (0 : Int32) mu41 la42)))))))))) ∧ (¬ ((E.2.1 v3.toNatClampNeg) &&& (63 : Int32)) = 6 → ((((E.2.1 v3.toNatClampNeg) &&& (63 : Int32)) = 7 → (vp_in (v3 + (1 : Int32)) E.1 ∧ (vp_in (v3 + (2 : Int32)) E.1 ∧ (vp_in (v3 + (3 : Int32)) E.1 ∧ (FnI E d mi_57 [.inr (.inr (some (6, v1))), .inl (E.2.1 (v3 + (1 : Int32)).toNatClampNeg), .inl (E.2.1 (v3 + (2 : Int32)).toNatClampNeg), .inl (E.2.1 (v3 + (3 : Int32)).toNatClampNeg)] mu la (fun x43 mu44 la45 => vp_in (v3 + (1 : Int32)) E.1 ∧ (vp_in (v3 + (2 : Int32)) E.1 ∧ (vp_in (v3 + (3 : Int32)) E.1 ∧ (FnI E d mi_144 [.inr (.inr (some (7, v2))), .inl (E.2.1 (v3 + (1 : Int32)).toNatClampNeg), .inl (E.2.1 (v3 + (2 : Int32)).toNatClampNeg), .inl (E.2.1 (v3 + (3 : Int32)).toNatClampNeg)] mu44 la45 (fun x46 mu47 la48 => (x43 = x46 → (Ev E (d + 1) mi_230 10 [some (.inr (.inr (some (100, 0)))), some (.inr (.inr (some (6, v1)))), some (.inr (.inr (some (7, v2)))), some (.inl (v3 + (6 : Int32)))] [] (mem E mu47 la48) (qI E Q))) ∧ (¬ (x43 = x46) → (Q (0 : Int32) mu47 la48)))))))))))) ∧ (¬ ((E.2.1 v3.toNatClampNeg) &&& (63 : Int32)) = 7 → ((((E.2.1 v3.toNatClampNeg) &&& (63 : Int32)) = 8 → (vp_in (v3 + (1 : Int32)) E.1 ∧ (FnI E d mi_58 [.inr (.inr (some (6, v1))), .inl (E.2.1 (v3 + (1 : Int32)).toNatClampNeg)] mu la (fun x49 mu50 la51 => vp_in (v3 + (1 : Int32)) E.1 ∧ (FnI E d mi_152 [.inr (.inr (some (7, v2))), .inl (E.2.1 (v3 + (1 : Int32)).toNatClampNeg)] mu50 la51 (fun x52 mu53 la54 => (x49 = x52 → (Ev E (d + 1) mi_230 10 [some (.inr (.inr (some (100, 0)))), some (.inr (.inr (some (6, v1)))), some (.inr (.inr (some (7, v2)))), some (.inl (v3 + (6 : Int32)))] [] (mem E mu53 la54) (qI E Q))) ∧ (¬ (x49 = x52) → (Q (0 : Int32) mu53 la54)))))))) ∧ (¬ ((E.2.1 v3.toNatClampNeg) &&& (63 : Int32)) = 8 → ((((E.2.1 v3.toNatClampNeg) &&& (63 : Int32)) = 9 → (vp_in (v3 + (1 : Int32)) E.1 ∧ (FnI E d mi_59 [.inr (.inr (some (6, v1))), .inl (E.2.1 (v3 + (1 : Int32)).toNatClampNeg)] mu la (fun x55 mu56 la57 => vp_in (v3 + (1 : Int32)) E.1 ∧ (FnI E d mi_154 [.inr (.inr (some (7, v2))), .inl (E.2.1 (v3 + (1 : Int32)).toNatClampNeg)] mu56 la57 (fun x58 mu59 la60 => (x55 = x58 → (Ev E (d + 1) mi_230 10 [some (.inr (.inr (some (100, 0)))), some (.inr (.inr (some (6, v1)))), some (.inr (.inr (some (7, v2)))), some (.inl (v3 + (6 : Int32)))] [] (mem E mu59 la60) (qI E Q))) ∧ (¬ (x55 = x58) → (Q (0 : Int32) mu59 la60)))))))) ∧ (¬ ((E.2.1 v3.toNatClampNeg) &&& (63 : Int32)) = 9 → ((((E.2.1 v3.toNatClampNeg) &&& (63 : Int32)) = 10 → (vp_in (v3 + (1 : Int32)) E.1 ∧ (vp_in (v3 + (2 : Int32)) E.1 ∧ (FnI E d mi_60 [.inr (.inr (some (6, v1))), .inl (E.2.1 (v3 + (1 : Int32)).toNatClampNeg), .inl (E.2.1 (v3 + (2 : Int32)).toNatClampNeg)] mu la (fun x61 mu62 la63 => vp_in (v3 + (1 : Int32)) E.1 ∧ (vp_in (v3 + (2 : Int32)) E.1 ∧ (FnI E d mi_168 [.inr (.inr (some (7, v2))), .inl (E.2.1 (v3 + (1 : Int32)).toNatClampNeg), .inl (E.2.1 (v3 + (2 : Int32)).toNatClampNeg)] mu62 la63 (fun x64 mu65 la66 => (x61 = x64 → (Ev E (d + 1) mi_230 10 [some (.inr (.inr (some (100, 0)))), some (.inr (.inr (some (6, v1)))), some (.inr (.inr (some (7, v2)))), some (.inl (v3 + (6 : Int32)))] [] (mem E mu65 la66) (qI E Q))) ∧ (¬ (x61 = x64) → (Q (0 : Int32) mu65 la66)))))))))) ∧ (¬ ((E.2.1 v3.toNatClampNeg) &&& (63 : Int32)) = 10 → ((((E.2.1 v3.toNatClampNeg) &&& (63 : Int32)) = 11 → (vp_in (v3 + (1 : Int32)) E.1 ∧ (vp_in (v3 + (2 : Int32)) E.1 ∧ (FnI E d mi_61 [.inr (.inr (some (6, v1))), .inl (E.2.1 (v3 + (1 : Int32)).toNatClampNeg), .inl (E.2.1 (v3 + (2 : Int32)).toNatClampNeg)] mu la (fun x67 mu68 la69 => vp_in (v3 + (1 : Int32)) E.1 ∧ (vp_in (v3 + (2 : Int32)) E.1 ∧ (FnI E d mi_172 [.inr (.inr (some (7, v2))), .inl (E.2.1 (v3 + (1 : Int32)).toNatClampNeg), .inl (E.2.1 (v3 + (2 : Int32)).toNatClampNeg)] mu68 la69 (fun x70 mu71 la72 => (x67 = x70 → (Ev E (d + 1) mi_230 10 [some (.inr (.inr (some (100, 0)))), some (.inr (.inr (some (6, v1)))), some (.inr (.inr (some (7, v2)))), some (.inl (v3 + (6 : Int32)))] [] (mem E mu71 la72) (qI E Q))) ∧ (¬ (x67 = x70) → (Q (0 : Int32) mu71 la72)))))))))) ∧ (¬ ((E.2.1 v3.toNatClampNeg) &&& (63 : Int32)) = 11 → ((((E.2.1 v3.toNatClampNeg) &&& (63 : Int32)) = 12 → (vp_in (v3 + (1 : Int32)) E.1 ∧ (FnI E d mi_62 [.inr (.inr (some (6, v1))), .inl (E.2.1 (v3 + (1 : Int32)).toNatClampNeg)] mu la (fun x73 mu74 la75 => vp_in (v3 + (1 : Int32)) E.1 ∧ (FnI E d mi_173 [.inr (.inr (some (7, v2))), .inl (E.2.1 (v3 + (1 : Int32)).toNatClampNeg)] mu74 la75 (fun x76 mu77 la78 => (x73 = x76 → (Ev E (d + 1) mi_230 10 [some (.inr (.inr (some (100, 0)))), some (.inr (.inr (some (6, v1)))), some (.inr (.inr (some (7, v2)))), some (.inl (v3 + (6 : Int32)))] [] (mem E mu77 la78) (qI E Q))) ∧ (¬ (x73 = x76) → (Q (0 : Int32) mu77 la78)))))))) ∧ (¬ ((E.2.1 v3.toNatClampNeg) &&& (63 : Int32)) = 12 → ((((E.2.1 v3.toNatClampNeg) &&& (63 : Int32)) = 13 → (vp_in (v3 + (1 : Int32)) E.1 ∧ (FnI E d mi_63 [.inr (.inr (some (6, v1))), .inl (E.2.1 (v3 + (1 : Int32)).toNatClampNeg)] mu la (fun x79 mu80 la81 => vp_in (v3 + (1 : Int32)) E.1 ∧ (FnI E d mi_176 [.inr (.inr (some (7, v2))), .inl (E.2.1 (v3 + (1 : Int32)).toNatClampNeg)] mu80 la81 (fun x82 mu83 la84 => (x79 = x82 → (Ev E (d + 1) mi_230 10 [some (.inr (.inr (some (100, 0)))), some (.inr (.inr (some (6, v1)))), some (.inr (.inr (some (7, v2)))), some (.inl (v3 + (6 : Int32)))] [] (mem E mu83 la84) (qI E Q))) ∧ (¬ (x79 = x82) → (Q (0 : Int32) mu83 la84)))))))) ∧ (¬ ((E.2.1 v3.toNatClampNeg) &&& (63 : Int32)) = 13 → ((((E.2.1 v3.toNatClampNeg) &&& (63 : Int32)) = 14 → (vp_in (v3 + (1 : Int32)) E.1 ∧ (vp_in (v3 + (2 : Int32)) E.1 ∧ (FnI E d mi_64 [.inr (.inr (some (6, v1))), .inl (E.2.1 (v3 + (1 : Int32)).toNatClampNeg), .inl (E.2.1 (v3 + (2 : Int32)).toNatClampNeg)] mu la (fun x85 mu86 la87 => vp_in (v3 + (1 : Int32)) E.1 ∧ (vp_in (v3 + (2 : Int32)) E.1 ∧ (FnI E d mi_178 [.inr (.inr (some (7, v2))), .inl (E.2.1 (v3 + (1 : Int32)).toNatClampNeg), .inl (E.2.1 (v3 + (2 : Int32)).toNatClampNeg)] mu86 la87 (fun x88 mu89 la90 => (x85 = x88 → (Ev E (d + 1) mi_230 10 [some (.inr (.inr (some (100, 0)))), some (.inr (.inr (some (6, v1)))), some (.inr (.inr (some (7, v2)))), some (.inl (v3 + (6 : Int32)))] [] (mem E mu89 la90) (qI E Q))) ∧ (¬ (x85 = x88) → (Q (0 : Int32) mu89 la90)))))))))) ∧ (¬ ((E.2.1 v3.toNatClampNeg) &&& (63 : Int32)) = 14 → ((((E.2.1 v3.toNatClampNeg) &&& (63 : Int32)) = 15 → (vp_in (v3 + (1 : Int32)) E.1 ∧ (FnI E d mi_65 [.inr (.inr (some (6, v1))), .inl (E.2.1 (v3 + (1 : Int32)).toNatClampNeg)] mu la (fun x91 mu92 la93 => vp_in (v3 + (1 : Int32)) E.1 ∧ (FnI E d mi_179 [.inr (.inr (some (7, v2))), .inl (E.2.1 (v3 + (1 : Int32)).toNatClampNeg)] mu92 la93 (fun x94 mu95 la96 => (x91 = x94 → (Ev E (d + 1) mi_230 10 [some (.inr (.inr (some (100, 0)))), some (.inr (.inr (some (6, v1)))), some (.inr (.inr (some (7, v2)))), some (.inl (v3 + (6 : Int32)))] [] (mem E mu95 la96) (qI E Q))) ∧ (¬ (x91 = x94) → (Q (0 : Int32) mu95 la96)))))))) ∧ (¬ ((E.2.1 v3.toNatClampNeg) &&& (63 : Int32)) = 15 → ((((E.2.1 v3.toNatClampNeg) &&& (63 : Int32)) = 16 → (vp_in (v3 + (1 : Int32)) E.1 ∧ (FnI E d mi_66 [.inr (.inr (some (6, v1))), .inl (E.2.1 (v3 + (1 : Int32)).toNatClampNeg)] mu la (fun x97 mu98 la99 => vp_in (v3 + (1 : Int32)) E.1 ∧ (FnI E d mi_180 [.inr (.inr (some (7, v2))), .inl (E.2.1 (v3 + (1 : Int32)).toNatClampNeg)] mu98 la99 (fun x100 mu101 la102 => (x97 = x100 → (Ev E (d + 1) mi_230 10 [some (.inr (.inr (some (100, 0)))), some (.inr (.inr (some (6, v1)))), some (.inr (.inr (some (7, v2)))), some (.inl (v3 + (6 : Int32)))] [] (mem E mu101 la102) (qI E Q))) ∧ (¬ (x97 = x100) → (Q (0 : Int32) mu101 la102)))))))) ∧ (¬ ((E.2.1 v3.toNatClampNeg) &&& (63 : Int32)) = 16 → ((((E.2.1 v3.toNatClampNeg) &&& (63 : Int32)) = 17 → (vp_in (v3 + (1 : Int32)) E.1 ∧ (FnI E d mi_67 [.inr (.inr (some (6, v1))), .inl (E.2.1 (v3 + (1 : Int32)).toNatClampNeg)] mu la (fun x103 mu104 la105 => vp_in (v3 + (1 : Int32)) E.1 ∧ (FnI E d mi_181 [.inr (.inr (some (7, v2))), .inl (E.2.1 (v3 + (1 : Int32)).toNatClampNeg)] mu104 la105 (fun x106 mu107 la108 => (x103 = x106 → (Ev E (d + 1) mi_230 10 [some (.inr (.inr (some (100, 0)))), some (.inr (.inr (some (6, v1)))), some (.inr (.inr (some (7, v2)))), some (.inl (v3 + (6 : Int32)))] [] (mem E mu107 la108) (qI E Q))) ∧ (¬ (x103 = x106) → (Q (0 : Int32) mu107 la108)))))))) ∧ (¬ ((E.2.1 v3.toNatClampNeg) &&& (63 : Int32)) = 17 → ((((E.2.1 v3.toNatClampNeg) &&& (63 : Int32)) = 18 → (vp_in (v3 + (1 : Int32)) E.1 ∧ (FnI E d mi_68 [.inr (.inr (some (6, v1))), .inl (E.2.1 (v3 + (1 : Int32)).toNatClampNeg)] mu la (fun x109 mu110 la111 => vp_in (v3 + (1 : Int32)) E.1 ∧ (FnI E d mi_182 [.inr (.inr (some (7, v2))), .inl (E.2.1 (v3 + (1 : Int32)).toNatClampNeg)] mu110 la111 (fun x112 mu113 la114 => (x109 = x112 → (Ev E (d + 1) mi_230 10 [some (.inr (.inr (some (100, 0)))), some (.inr (.inr (some (6, v1)))), some (.inr (.inr (some (7, v2)))), some (.inl (v3 + (6 : Int32)))] [] (mem E mu113 la114) (qI E Q))) ∧ (¬ (x109 = x112) → (Q (0 : Int32) mu113 la114)))))))) ∧ (¬ ((E.2.1 v3.toNatClampNeg) &&& (63 : Int32)) = 18 → ((((E.2.1 v3.toNatClampNeg) &&& (63 : Int32)) = 19 → (vp_in (v3 + (1 : Int32)) E.1 ∧ (FnI E d mi_69 [.inr (.inr (some (6, v1))), .inl (E.2.1 (v3 + (1 : Int32)).toNatClampNeg)] mu la (fun x115 mu116 la117 => vp_in (v3 + (1 : Int32)) E.1 ∧ (FnI E d mi_189 [.inr (.inr (some (7, v2))), .inl (E.2.1 (v3 + (1 : Int32)).toNatClampNeg)] mu116 la117 (fun x118 mu119 la120 => (x115 = x118 → (Ev E (d + 1) mi_230 10 [some (.inr (.inr (some (100, 0)))), some (.inr (.inr (some (6, v1)))), some (.inr (.inr (some (7, v2)))), some (.inl (v3 + (6 : Int32)))] [] (mem E mu119 la120) (qI E Q))) ∧ (¬ (x115 = x118) → (Q (0 : Int32) mu119 la120)))))))) ∧ (¬ ((E.2.1 v3.toNatClampNeg) &&& (63 : Int32)) = 19 → ((((E.2.1 v3.toNatClampNeg) &&& (63 : Int32)) = 20 → (vp_in (v3 + (1 : Int32)) E.1 ∧ (FnI E d mi_70 [.inr (.inr (some (6, v1))), .inl (E.2.1 (v3 + (1 : Int32)).toNatClampNeg)] mu la (fun x121 mu122 la123 => vp_in (v3 + (1 : Int32)) E.1 ∧ (FnI E d mi_190 [.inr (.inr (some (7, v2))), .inl (E.2.1 (v3 + (1 : Int32)).toNatClampNeg)] mu122 la123 (fun x124 mu125 la126 => (x121 = x124 → (Ev E (d + 1) mi_230 10 [some (.inr (.inr (some (100, 0)))), some (.inr (.inr (some (6, v1)))), some (.inr (.inr (some (7, v2)))), some (.inl (v3 + (6 : Int32)))] [] (mem E mu125 la126) (qI E Q))) ∧ (¬ (x121 = x124) → (Q (0 : Int32) mu125 la126)))))))) ∧ (¬ ((E.2.1 v3.toNatClampNeg) &&& (63 : Int32)) = 20 → ((((E.2.1 v3.toNatClampNeg) &&& (63 : Int32)) = 21 → (vp_in (v3 + (1 : Int32)) E.1 ∧ (FnI E d mi_71 [.inr (.inr (some (6, v1))), .inl (E.2.1 (v3 + (1 : Int32)).toNatClampNeg)] mu la (fun x127 mu128 la129 => vp_in (v3 + (1 : Int32)) E.1 ∧ (FnI E d mi_191 [.inr (.inr (some (7, v2))), .inl (E.2.1 (v3 + (1 : Int32)).toNatClampNeg)] mu128 la129 (fun x130 mu131 la132 => (x127 = x130 → (Ev E (d + 1) mi_230 10 [some (.inr (.inr (some (100, 0)))), some (.inr (.inr (some (6, v1)))), some (.inr (.inr (some (7, v2)))), some (.inl (v3 + (6 : Int32)))] [] (mem E mu131 la132) (qI E Q))) ∧ (¬ (x127 = x130) → (Q (0 : Int32) mu131 la132)))))))) ∧ (¬ ((E.2.1 v3.toNatClampNeg) &&& (63 : Int32)) = 21 → ((((E.2.1 v3.toNatClampNeg) &&& (63 : Int32)) = 22 → (vp_in (v3 + (1 : Int32)) E.1 ∧ (FnI E d mi_72 [.inr (.inr (some (6, v1))), .inl (E.2.1 (v3 + (1 : Int32)).toNatClampNeg)] mu la (fun x133 mu134 la135 => vp_in (v3 + (1 : Int32)) E.1 ∧ (FnI E d mi_193 [.inr (.inr (some (7, v2))), .inl (E.2.1 (v3 + (1 : Int32)).toNatClampNeg)] mu134 la135 (fun x136 mu137 la138 => (x133 = x136 → (Ev E (d + 1) mi_230 10 [some (.inr (.inr (some (100, 0)))), some (.inr (.inr (some (6, v1)))), some (.inr (.inr (some (7, v2)))), some (.inl (v3 + (6 : Int32)))] [] (mem E mu137 la138) (qI E Q))) ∧ (¬ (x133 = x136) → (Q (0 : Int32) mu137 la138)))))))) ∧ (¬ ((E.2.1 v3.toNatClampNeg) &&& (63 : Int32)) = 22 → ((((E.2.1 v3.toNatClampNeg) &&& (63 : Int32)) = 23 → (vp_in (v3 + (1 : Int32)) E.1 ∧ (FnI E d mi_73 [.inr (.inr (some (6, v1))), .inl (E.2.1 (v3 + (1 : Int32)).toNatClampNeg)] mu la (fun x139 mu140 la141 => vp_in (v3 + (1 : Int32)) E.1 ∧ (FnI E d mi_194 [.inr (.inr (some (7, v2))), .inl (E.2.1 (v3 + (1 : Int32)).toNatClampNeg)] mu140 la141 (fun x142 mu143 la144 => (x139 = x142 → (Ev E (d + 1) mi_230 10 [some (.inr (.inr (some (100, 0)))), some (.inr (.inr (some (6, v1)))), some (.inr (.inr (some (7, v2)))), some (.inl (v3 + (6 : Int32)))] [] (mem E mu143 la144) (qI E Q))) ∧ (¬ (x139 = x142) → (Q (0 : Int32) mu143 la144)))))))) ∧ (¬ ((E.2.1 v3.toNatClampNeg) &&& (63 : Int32)) = 23 → ((((E.2.1 v3.toNatClampNeg) &&& (63 : Int32)) = 24 → (vp_in (v3 + (1 : Int32)) E.1 ∧ (vp_in (v3 + (2 : Int32)) E.1 ∧ (FnI E d mi_74 [.inr (.inr (some (6, v1))), .inl (E.2.1 (v3 + (1 : Int32)).toNatClampNeg), .inl (E.2.1 (v3 + (2 : Int32)).toNatClampNeg)] mu la (fun x145 mu146 la147 => vp_in (v3 + (1 : Int32)) E.1 ∧ (vp_in (v3 + (2 : Int32)) E.1 ∧ (FnI E d mi_195 [.inr (.inr (some (7, v2))), .inl (E.2.1 (v3 + (1 : Int32)).toNatClampNeg), .inl (E.2.1 (v3 + (2 : Int32)).toNatClampNeg)] mu146 la147 (fun x148 mu149 la150 => (x145 = x148 → (Ev E (d + 1) mi_230 10 [some (.inr (.inr (some (100, 0)))), some (.inr (.inr (some (6, v1)))), some (.inr (.inr (some (7, v2)))), some (.inl (v3 + (6 : Int32)))] [] (mem E mu149 la150) (qI E Q))) ∧ (¬ (x145 = x148) → (Q (0 : Int32) mu149 la150)))))))))) ∧ (¬ ((E.2.1 v3.toNatClampNeg) &&& (63 : Int32)) = 24 → ((((E.2.1 v3.toNatClampNeg) &&& (63 : Int32)) = 25 → (FnI E d mi_75 [.inr (.inr (some (6, v1)))] mu la (fun x151 mu152 la153 => FnI E d mi_196 [.inr (.inr (some (7, v2)))] mu152 la153 (fun x154 mu155 la156 => (x151 = x154 → (Ev E (d + 1) mi_230 10 [some (.inr (.inr (some (100, 0)))), some (.inr (.inr (some (6, v1)))), some (.inr (.inr (some (7, v2)))), some (.inl (v3 + (6 : Int32)))] [] (mem E mu155 la156) (qI E Q))) ∧ (¬ (x151 = x154) → (Q (0 : Int32) mu155 la156)))))) ∧ (¬ ((E.2.1 v3.toNatClampNeg) &&& (63 : Int32)) = 25 → ((((E.2.1 v3.toNatClampNeg) &&& (63 : Int32)) = 26 → (FnI E d mi_76 [.inr (.inr (some (6, v1)))] mu la (fun x157 mu158 la159 => FnI E d mi_197 [.inr (.inr (some (7, v2)))] mu158 la159 (fun x160 mu161 la162 => (x157 = x160 → (Ev E (d + 1) mi_230 10 [some (.inr (.inr (some (100, 0)))), some (.inr (.inr (some (6, v1)))), some (.inr (.inr (some (7, v2)))), some (.inl (v3 + (6 : Int32)))] [] (mem E mu161 la162) (qI E Q))) ∧ (¬ (x157 = x160) → (Q (0 : Int32) mu161 la162)))))) ∧ (¬ ((E.2.1 v3.toNatClampNeg) &&& (63 : Int32)) = 26 → ((((E.2.1 v3.toNatClampNeg) &&& (63 : Int32)) = 27 → (vp_in (v3 + (1 : Int32)) E.1 ∧ (FnI E d mi_77 [.inr (.inr (some (6, v1))), .inl (E.2.1 (v3 + (1 : Int32)).toNatClampNeg)] mu la (fun x163 mu164 la165 => vp_in (v3 + (1 : Int32)) E.1 ∧ (FnI E d mi_198 [.inr (.inr (some (7, v2))), .inl (E.2.1 (v3 + (1 : Int32)).toNatClampNeg)] mu164 la165 (fun x166 mu167 la168 => (x163 = x166 → (Ev E (d + 1) mi_230 10 [some (.inr (.inr (some (100, 0)))), some (.inr (.inr (some (6, v1)))), some (.inr (.inr (some (7, v2)))), some (.inl (v3 + (6 : Int32)))] [] (mem E mu167 la168) (qI E Q))) ∧ (¬ (x163 = x166) → (Q (0 : Int32) mu167 la168)))))))) ∧ (¬ ((E.2.1 v3.toNatClampNeg) &&& (63 : Int32)) = 27 → ((((E.2.1 v3.toNatClampNeg) &&& (63 : Int32)) = 28 → (vp_in (v3 + (1 : Int32)) E.1 ∧ (FnI E d mi_78 [.inr (.inr (some (6, v1))), .inl (E.2.1 (v3 + (1 : Int32)).toNatClampNeg)] mu la (fun x169 mu170 la171 => vp_in (v3 + (1 : Int32)) E.1 ∧ (FnI E d mi_199 [.inr (.inr (some (7, v2))), .inl (E.2.1 (v3 + (1 : Int32)).toNatClampNeg)] mu170 la171 (fun x172 mu173 la174 => (x169 = x172 → (Ev E (d + 1) mi_230 10 [some (.inr (.inr (some (100, 0)))), some (.inr (.inr (some (6, v1)))), some (.inr (.inr (some (7, v2)))), some (.inl (v3 + (6 : Int32)))] [] (mem E mu173 la174) (qI E Q))) ∧ (¬ (x169 = x172) → (Q (0 : Int32) mu173 la174)))))))) ∧ (¬ ((E.2.1 v3.toNatClampNeg) &&& (63 : Int32)) = 28 → ((((E.2.1 v3.toNatClampNeg) &&& (63 : Int32)) = 29 → (FnI E d mi_79 [.inr (.inr (some (6, v1)))] mu la (fun x175 mu176 la177 => FnI E d mi_200 [.inr (.inr (some (7, v2)))] mu176 la177 (fun x178 mu179 la180 => (x175 = x178 → (Ev E (d + 1) mi_230 10 [some (.inr (.inr (some (100, 0)))), some (.inr (.inr (some (6, v1)))), some (.inr (.inr (some (7, v2)))), some (.inl (v3 + (6 : Int32)))] [] (mem E mu179 la180) (qI E Q))) ∧ (¬ (x175 = x178) → (Q (0 : Int32) mu179 la180)))))) ∧ (¬ ((E.2.1 v3.toNatClampNeg) &&& (63 : Int32)) = 29 → ((((E.2.1 v3.toNatClampNeg) &&& (63 : Int32)) = 30 → (FnI E d mi_80 [.inr (.inr (some (6, v1)))] mu la (fun x181 mu182 la183 => FnI E d mi_201 [.inr (.inr (some (7, v2)))] mu182 la183 (fun x184 mu185 la186 => (x181 = x184 → (Ev E (d + 1) mi_230 10 [some (.inr (.inr (some (100, 0)))), some (.inr (.inr (some (6, v1)))), some (.inr (.inr (some (7, v2)))), some (.inl (v3 + (6 : Int32)))] [] (mem E mu185 la186) (qI E Q))) ∧ (¬ (x181 = x184) → (Q (0 : Int32) mu185 la186)))))) ∧ (¬ ((E.2.1 v3.toNatClampNeg) &&& (63 : Int32)) = 30 → ((((E.2.1 v3.toNatClampNeg) &&& (63 : Int32)) = 31 → (vp_in (v3 + (1 : Int32)) E.1 ∧ (FnI E d mi_81 [.inr (.inr (some (6, v1))), .inl (E.2.1 (v3 + (1 : Int32)).toNatClampNeg)] mu la (fun x187 mu188 la189 => vp_in (v3 + (1 : Int32)) E.1 ∧ (FnI E d mi_202 [.inr (.inr (some (7, v2))), .inl (E.2.1 (v3 + (1 : Int32)).toNatClampNeg)] mu188 la189 (fun x190 mu191 la192 => (x187 = x190 → (Ev E (d + 1) mi_230 10 [some (.inr (.inr (some (100, 0)))), some (.inr (.inr (some (6, v1)))), some (.inr (.inr (some (7, v2)))), some (.inl (v3 + (6 : Int32)))] [] (mem E mu191 la192) (qI E Q))) ∧ (¬ (x187 = x190) → (Q (0 : Int32) mu191 la192)))))))) ∧ (¬ ((E.2.1 v3.toNatClampNeg) &&& (63 : Int32)) = 31 → ((((E.2.1 v3.toNatClampNeg) &&& (63 : Int32)) = 32 → (vp_in (v3 + (1 : Int32)) E.1 ∧ (FnI E d mi_82 [.inr (.inr (some (6, v1))), .inl (E.2.1 (v3 + (1 : Int32)).toNatClampNeg)] mu la (fun x193 mu194 la195 => vp_in (v3 + (1 : Int32)) E.1 ∧ (FnI E d mi_204 [.inr (.inr (some (7, v2))), .inl (E.2.1 (v3 + (1 : Int32)).toNatClampNeg)] mu194 la195 (fun x196 mu197 la198 => (x193 = x196 → (Ev E (d + 1) mi_230 10 [some (.inr (.inr (some (100, 0)))), some (.inr (.inr (some (6, v1)))), some (.inr (.inr (some (7, v2)))), some (.inl (v3 + (6 : Int32)))] [] (mem E mu197 la198) (qI E Q))) ∧ (¬ (x193 = x196) → (Q (0 : Int32) mu197 la198)))))))) ∧ (¬ ((E.2.1 v3.toNatClampNeg) &&& (63 : Int32)) = 32 → ((((E.2.1 v3.toNatClampNeg) &&& (63 : Int32)) = 33 → (vp_in (v3 + (1 : Int32)) E.1 ∧ (vp_in (v3 + (2 : Int32)) E.1 ∧ (vp_in (v3 + (3 : Int32)) E.1 ∧ (FnI E d mi_83 [.inr (.inr (some (6, v1))), .inl (E.2.1 (v3 + (1 : Int32)).toNatClampNeg), .inl (E.2.1 (v3 + (2 : Int32)).toNatClampNeg), .inl (E.2.1 (v3 + (3 : Int32)).toNatClampNeg)] mu la (fun x199 mu200 la201 => vp_in (v3 + (1 : Int32)) E.1 ∧ (vp_in (v3 + (2 : Int32)) E.1 ∧ (vp_in (v3 + (3 : Int32)) E.1 ∧ (FnI E d mi_205 [.inr (.inr (some (7, v2))), .inl (E.2.1 (v3 + (1 : Int32)).toNatClampNeg), .inl (E.2.1 (v3 + (2 : Int32)).toNatClampNeg), .inl (E.2.1 (v3 + (3 : Int32)).toNatClampNeg)] mu200 la201 (fun x202 mu203 la204 => (x199 = x202 → (Ev E (d + 1) mi_230 10 [some (.inr (.inr (some (100, 0)))), some (.inr (.inr (some (6, v1)))), some (.inr (.inr (some (7, v2)))), some (.inl (v3 + (6 : Int32)))] [] (mem E mu203 la204) (qI E Q))) ∧ (¬ (x199 = x202) → (Q (0 : Int32) mu203 la204)))))))))))) ∧ (¬ ((E.2.1 v3.toNatClampNeg) &&& (63 : Int32)) = 33 → ((((E.2.1 v3.toNatClampNeg) &&& (63 : Int32)) = 34 → (vp_in (v3 + (1 : Int32)) E.1 ∧ (FnI E d mi_84 [.inr (.inr (some (6, v1))), .inl (E.2.1 (v3 + (1 : Int32)).toNatClampNeg)] mu la (fun x205 mu206 la207 => vp_in (v3 + (1 : Int32)) E.1 ∧ (FnI E d mi_210 [.inr (.inr (some (7, v2))), .inl (E.2.1 (v3 + (1 : Int32)).toNatClampNeg)] mu206 la207 (fun x208 mu209 la210 => (x205 = x208 → (Ev E (d + 1) mi_230 10 [some (.inr (.inr (some (100, 0)))), some (.inr (.inr (some (6, v1)))), some (.inr (.inr (some (7, v2)))), some (.inl (v3 + (6 : Int32)))] [] (mem E mu209 la210) (qI E Q))) ∧ (¬ (x205 = x208) → (Q (0 : Int32) mu209 la210)))))))) ∧ (¬ ((E.2.1 v3.toNatClampNeg) &&& (63 : Int32)) = 34 → ((((E.2.1 v3.toNatClampNeg) &&& (63 : Int32)) = 35 → (vp_in (v3 + (1 : Int32)) E.1 ∧ (vp_in (v3 + (2 : Int32)) E.1 ∧ (FnI E d mi_85 [.inr (.inr (some (6, v1))), .inl (E.2.1 (v3 + (1 : Int32)).toNatClampNeg), .inl (E.2.1 (v3 + (2 : Int32)).toNatClampNeg)] mu la (fun x211 mu212 la213 => vp_in (v3 + (1 : Int32)) E.1 ∧ (vp_in (v3 + (2 : Int32)) E.1 ∧ (FnI E d mi_214 [.inr (.inr (some (7, v2))), .inl (E.2.1 (v3 + (1 : Int32)).toNatClampNeg), .inl (E.2.1 (v3 + (2 : Int32)).toNatClampNeg)] mu212 la213 (fun x214 mu215 la216 => (x211 = x214 → (Ev E (d + 1) mi_230 10 [some (.inr (.inr (some (100, 0)))), some (.inr (.inr (some (6, v1)))), some (.inr (.inr (some (7, v2)))), some (.inl (v3 + (6 : Int32)))] [] (mem E mu215 la216) (qI E Q))) ∧ (¬ (x211 = x214) → (Q (0 : Int32) mu215 la216)))))))))) ∧ (¬ ((E.2.1 v3.toNatClampNeg) &&& (63 : Int32)) = 35 → ((((E.2.1 v3.toNatClampNeg) &&& (63 : Int32)) = 36 → (vp_in (v3 + (1 : Int32)) E.1 ∧ (FnI E d mi_86 [.inr (.inr (some (6, v1))), .inl (E.2.1 (v3 + (1 : Int32)).toNatClampNeg)] mu la (fun x217 mu218 la219 => vp_in (v3 + (1 : Int32)) E.1 ∧ (FnI E d mi_215 [.inr (.inr (some (7, v2))), .inl (E.2.1 (v3 + (1 : Int32)).toNatClampNeg)] mu218 la219 (fun x220 mu221 la222 => (x217 = x220 → (Ev E (d + 1) mi_230 10 [some (.inr (.inr (some (100, 0)))), some (.inr (.inr (some (6, v1)))), some (.inr (.inr (some (7, v2)))), some (.inl (v3 + (6 : Int32)))] [] (mem E mu221 la222) (qI E Q))) ∧ (¬ (x217 = x220) → (Q (0 : Int32) mu221 la222)))))))) ∧ (¬ ((E.2.1 v3.toNatClampNeg) &&& (63 : Int32)) = 36 → ((((E.2.1 v3.toNatClampNeg) &&& (63 : Int32)) = 37 → (vp_in (v3 + (1 : Int32)) E.1 ∧ (vp_in (v3 + (2 : Int32)) E.1 ∧ (FnI E d mi_87 [.inr (.inr (some (6, v1))), .inl (E.2.1 (v3 + (1 : Int32)).toNatClampNeg), .inl (E.2.1 (v3 + (2 : Int32)).toNatClampNeg)] mu la (fun x223 mu224 la225 => vp_in (v3 + (1 : Int32)) E.1 ∧ (vp_in (v3 + (2 : Int32)) E.1 ∧ (FnI E d mi_217 [.inr (.inr (some (7, v2))), .inl (E.2.1 (v3 + (1 : Int32)).toNatClampNeg), .inl (E.2.1 (v3 + (2 : Int32)).toNatClampNeg)] mu224 la225 (fun x226 mu227 la228 => (x223 = x226 → (Ev E (d + 1) mi_230 10 [some (.inr (.inr (some (100, 0)))), some (.inr (.inr (some (6, v1)))), some (.inr (.inr (some (7, v2)))), some (.inl (v3 + (6 : Int32)))] [] (mem E mu227 la228) (qI E Q))) ∧ (¬ (x223 = x226) → (Q (0 : Int32) mu227 la228)))))))))) ∧ (¬ ((E.2.1 v3.toNatClampNeg) &&& (63 : Int32)) = 37 → ((((E.2.1 v3.toNatClampNeg) &&& (63 : Int32)) = 38 → (FnI E d mi_88 [.inr (.inr (some (6, v1)))] mu la (fun x229 mu230 la231 => FnI E d mi_218 [.inr (.inr (some (7, v2)))] mu230 la231 (fun x232 mu233 la234 => (x229 = x232 → (Ev E (d + 1) mi_230 10 [some (.inr (.inr (some (100, 0)))), some (.inr (.inr (some (6, v1)))), some (.inr (.inr (some (7, v2)))), some (.inl (v3 + (6 : Int32)))] [] (mem E mu233 la234) (qI E Q))) ∧ (¬ (x229 = x232) → (Q (0 : Int32) mu233 la234)))))) ∧ (¬ ((E.2.1 v3.toNatClampNeg) &&& (63 : Int32)) = 38 → ((((E.2.1 v3.toNatClampNeg) &&& (63 : Int32)) = 39 → (FnL E d mi_89 [.inr (.inr (some (6, v1)))] mu la (fun x235 mu236 la237 => FnL E d mi_219 [.inr (.inr (some (7, v2)))] mu236 la237 (fun x238 mu239 la240 => ((lg_cmp x235 x238) = 0 → (Ev E (d + 1) mi_230 10 [some (.inr (.inr (some (100, 0)))), some (.inr (.inr (some (6, v1)))), some (.inr (.inr (some (7, v2)))), some (.inl (v3 + (6 : Int32)))] [] (mem E mu239 la240) (qI E Q))) ∧ (¬ ((lg_cmp x235 x238) = 0) → (Q (0 : Int32) mu239 la240)))))) ∧ (¬ ((E.2.1 v3.toNatClampNeg) &&& (63 : Int32)) = 39 → ((((E.2.1 v3.toNatClampNeg) &&& (63 : Int32)) = 40 → (FnL E d mi_90 [.inr (.inr (some (6, v1)))] mu la (fun x241 mu242 la243 => FnL E d mi_220 [.inr (.inr (some (7, v2)))] mu242 la243 (fun x244 mu245 la246 => ((lg_cmp x241 x244) = 0 → (Ev E (d + 1) mi_230 10 [some (.inr (.inr (some (100, 0)))), some (.inr (.inr (some (6, v1)))), some (.inr (.inr (some (7, v2)))), some (.inl (v3 + (6 : Int32)))] [] (mem E mu245 la246) (qI E Q))) ∧ (¬ ((lg_cmp x241 x244) = 0) → (Q (0 : Int32) mu245 la246)))))) ∧ (¬ ((E.2.1 v3.toNatClampNeg) &&& (63 : Int32)) = 40 → ((((E.2.1 v3.toNatClampNeg) &&& (63 : Int32)) = 41 → (vp_in (v3 + (1 : Int32)) E.1 ∧ (FnI E d mi_91 [.inr (.inr (some (6, v1))), .inl (E.2.1 (v3 + (1 : Int32)).toNatClampNeg)] mu la (fun x247 mu248 la249 => vp_in (v3 + (1 : Int32)) E.1 ∧ (FnI E d mi_223 [.inr (.inr (some (7, v2))), .inl (E.2.1 (v3 + (1 : Int32)).toNatClampNeg)] mu248 la249 (fun x250 mu251 la252 => (x247 = x250 → (Ev E (d + 1) mi_230 10 [some (.inr (.inr (some (100, 0)))), some (.inr (.inr (some (6, v1)))), some (.inr (.inr (some (7, v2)))), some (.inl (v3 + (6 : Int32)))] [] (mem E mu251 la252) (qI E Q))) ∧ (¬ (x247 = x250) → (Q (0 : Int32) mu251 la252)))))))) ∧ (¬ ((E.2.1 v3.toNatClampNeg) &&& (63 : Int32)) = 41 → ((((E.2.1 v3.toNatClampNeg) &&& (63 : Int32)) = 42 → (FnI E d mi_92 [.inr (.inr (some (6, v1)))] mu la (fun x253 mu254 la255 => FnI E d mi_224 [.inr (.inr (some (7, v2)))] mu254 la255 (fun x256 mu257 la258 => (x253 = x256 → (Ev E (d + 1) mi_230 10 [some (.inr (.inr (some (100, 0)))), some (.inr (.inr (some (6, v1)))), some (.inr (.inr (some (7, v2)))), some (.inl (v3 + (6 : Int32)))] [] (mem E mu257 la258) (qI E Q))) ∧ (¬ (x253 = x256) → (Q (0 : Int32) mu257 la258)))))) ∧ (¬ ((E.2.1 v3.toNatClampNeg) &&& (63 : Int32)) = 42 → ((((E.2.1 v3.toNatClampNeg) &&& (63 : Int32)) = 43 → (vp_in (v3 + (1 : Int32)) E.1 ∧ (FnI E d mi_93 [.inr (.inr (some (6, v1))), .inl (E.2.1 (v3 + (1 : Int32)).toNatClampNeg)] mu la (fun x259 mu260 la261 => vp_in (v3 + (1 : Int32)) E.1 ∧ (FnI E d mi_225 [.inr (.inr (some (7, v2))), .inl (E.2.1 (v3 + (1 : Int32)).toNatClampNeg)] mu260 la261 (fun x262 mu263 la264 => (x259 = x262 → (Ev E (d + 1) mi_230 10 [some (.inr (.inr (some (100, 0)))), some (.inr (.inr (some (6, v1)))), some (.inr (.inr (some (7, v2)))), some (.inl (v3 + (6 : Int32)))] [] (mem E mu263 la264) (qI E Q))) ∧ (¬ (x259 = x262) → (Q (0 : Int32) mu263 la264)))))))) ∧ (¬ ((E.2.1 v3.toNatClampNeg) &&& (63 : Int32)) = 43 → ((((E.2.1 v3.toNatClampNeg) &&& (63 : Int32)) = 44 → (FnL E d mi_94 [.inr (.inr (some (6, v1)))] mu la (fun x265 mu266 la267 => FnL E d mi_226 [.inr (.inr (some (7, v2)))] mu266 la267 (fun x268 mu269 la270 => ((lg_cmp x265 x268) = 0 → (Ev E (d + 1) mi_230 10 [some (.inr (.inr (some (100, 0)))), some (.inr (.inr (some (6, v1)))), some (.inr (.inr (some (7, v2)))), some (.inl (v3 + (6 : Int32)))] [] (mem E mu269 la270) (qI E Q))) ∧ (¬ ((lg_cmp x265 x268) = 0) → (Q (0 : Int32) mu269 la270)))))) ∧ (¬ ((E.2.1 v3.toNatClampNeg) &&& (63 : Int32)) = 44 → (Ev E (d + 1) mi_230 10 [some (.inr (.inr (some (100, 0)))), some (.inr (.inr (some (6, v1)))), some (.inr (.inr (some (7, v2)))), some (.inl (v3 + (6 : Int32)))] [] (mem E mu la) (qI E Q))))))))))))))))))))))))))))))))))))))))))))))))))))))))))))))))))))))))))))))))))))))))))))))) : Ev E (d + 1) mi_230 10 [some (.inr (.inr (some (100, 0)))), some (.inr (.inr (some (6, v1)))), some (.inr (.inr (some (7, v2)))), some (.inl v3)] [] (mem E mu la) (qI E Q) := by
  refine Ev.steps 2 (ip' := 12) (ls' := [some (.inr (.inr (some (100, 0)))), some (.inr (.inr (some (6, v1)))), some (.inr (.inr (some (7, v2)))), some (.inl v3)]) (st' := [.inr (.inr (some (100, 0))), .inl v3]) (M' := mem E mu la) rfl ?_
  refine Ev.steps 3 (ip' := 15) (ls' := [some (.inr (.inr (some (100, 0)))), some (.inr (.inr (some (6, v1)))), some (.inr (.inr (some (7, v2)))), some (.inl v3)]) (st' := [.inl ((Int32.ofNat E.1) - (6 : Int32)), .inl v3]) (M' := mem E mu la) rfl ?_
  refine Ev.br (c := ((Int32.ofNat E.1) - (6 : Int32)) < v3) (s1 := (892, [some (.inr (.inr (some (100, 0)))), some (.inr (.inr (some (6, v1)))), some (.inr (.inr (some (7, v2)))), some (.inl v3)], [], mem E mu la)) (s2 := (16, [some (.inr (.inr (some (100, 0)))), some (.inr (.inr (some (6, v1)))), some (.inr (.inr (some (7, v2)))), some (.inl v3)], [], mem E mu la)) rfl rfl rfl rfl (fun hc => ?_) (fun hc => ?_)
  · have h := h.1 hc
    dsimp only
    refine Ev.steps 1 (ip' := 893) (ls' := [some (.inr (.inr (some (100, 0)))), some (.inr (.inr (some (6, v1)))), some (.inr (.inr (some (7, v2)))), some (.inl v3)]) (st' := [.inl (1 : Int32)]) (M' := mem E mu la) rfl ?_
    exact Ev.retZ rfl rfl (Or.inr rfl) ⟨_, _, _, rfl, rfl, h⟩
  · have h := h.2 hc
    dsimp only
    refine Ev.steps 2 (ip' := 18) (ls' := [some (.inr (.inr (some (100, 0)))), some (.inr (.inr (some (6, v1)))), some (.inr (.inr (some (7, v2)))), some (.inl v3)]) (st' := [.inl v3, .inr (.inr (some (100, 0)))]) (M' := mem E mu la) rfl ?_
    refine Ev.alx rfl h.1 ?_
    have h := h.2
    refine Ev.steps 2 (ip' := 21) (ls' := [some (.inr (.inr (some (100, 0)))), some (.inr (.inr (some (6, v1)))), some (.inr (.inr (some (7, v2)))), some (.inl v3)]) (st' := [.inl ((E.2.1 v3.toNatClampNeg) &&& (63 : Int32))]) (M' := mem E mu la) rfl ?_
    by_cases hc0 : ((E.2.1 v3.toNatClampNeg) &&& (63 : Int32)) = 0
    · refine Ev.one (s' := (22, [some (.inr (.inr (some (100, 0)))), some (.inr (.inr (some (6, v1)))), some (.inr (.inr (some (7, v2)))), some (.inl v3)], [], mem E mu la)) rfl rfl rfl (by rw [hc0]; rfl) ?_
      have h := h.1 hc0
      dsimp only
      refine Ev.steps 5 (ip' := 27) (ls' := [some (.inr (.inr (some (100, 0)))), some (.inr (.inr (some (6, v1)))), some (.inr (.inr (some (7, v2)))), some (.inl v3)]) (st' := [.inl (v3 + (1 : Int32)), .inr (.inr (some (100, 0))), .inr (.inr (some (6, v1)))]) (M' := mem E mu la) rfl ?_
      refine Ev.alx rfl h.1 ?_
      have h := h.2
      refine Ev.steps 4 (ip' := 32) (ls' := [some (.inr (.inr (some (100, 0)))), some (.inr (.inr (some (6, v1)))), some (.inr (.inr (some (7, v2)))), some (.inl v3)]) (st' := [.inl (v3 + (2 : Int32)), .inr (.inr (some (100, 0))), .inl (E.2.1 (v3 + (1 : Int32)).toNatClampNeg), .inr (.inr (some (6, v1)))]) (M' := mem E mu la) rfl ?_
      refine Ev.alx rfl h.1 ?_
      have h := h.2
      refine Ev.ci (J := mi_50) (as := [.inr (.inr (some (6, v1))), .inl (E.2.1 (v3 + (1 : Int32)).toNatClampNeg), .inl (E.2.1 (v3 + (2 : Int32)).toNatClampNeg)]) (rest := []) rfl rfl rfl (Nat.le_of_ble_eq_true rfl) h (fun x1 mu2 la3 h => ?_)
      refine Ev.steps 5 (ip' := 39) (ls' := [some (.inr (.inr (some (100, 0)))), some (.inr (.inr (some (6, v1)))), some (.inr (.inr (some (7, v2)))), some (.inl v3)]) (st' := [.inl (v3 + (1 : Int32)), .inr (.inr (some (100, 0))), .inr (.inr (some (7, v2))), .inl x1]) (M' := mem E mu2 la3) rfl ?_
      refine Ev.alx rfl h.1 ?_
      have h := h.2
      refine Ev.steps 4 (ip' := 44) (ls' := [some (.inr (.inr (some (100, 0)))), some (.inr (.inr (some (6, v1)))), some (.inr (.inr (some (7, v2)))), some (.inl v3)]) (st' := [.inl (v3 + (2 : Int32)), .inr (.inr (some (100, 0))), .inl (E.2.1 (v3 + (1 : Int32)).toNatClampNeg), .inr (.inr (some (7, v2))), .inl x1]) (M' := mem E mu2 la3) rfl ?_
      refine Ev.alx rfl h.1 ?_
      have h := h.2
      refine Ev.ci (J := mi_137) (as := [.inr (.inr (some (7, v2))), .inl (E.2.1 (v3 + (1 : Int32)).toNatClampNeg), .inl (E.2.1 (v3 + (2 : Int32)).toNatClampNeg)]) (rest := [.inl x1]) rfl rfl rfl (Nat.le_of_ble_eq_true rfl) h (fun x4 mu5 la6 h => ?_)
      refine Ev.br (c := x1 = x4) (s1 := (890, [some (.inr (.inr (some (100, 0)))), some (.inr (.inr (some (6, v1)))), some (.inr (.inr (some (7, v2)))), some (.inl v3)], [], mem E mu5 la6)) (s2 := (47, [some (.inr (.inr (some (100, 0)))), some (.inr (.inr (some (6, v1)))), some (.inr (.inr (some (7, v2)))), some (.inl v3)], [], mem E mu5 la6)) rfl rfl rfl rfl (fun hc => ?_) (fun hc => ?_)
      · have h := h.1 hc
        dsimp only
        refine Ev.steps 2 (ip' := 10) (ls' := [some (.inr (.inr (some (100, 0)))), some (.inr (.inr (some (6, v1)))), some (.inr (.inr (some (7, v2)))), some (.inl (v3 + (6 : Int32)))]) (st' := []) (M' := mem E mu5 la6) rfl ?_
        exact h
      · have h := h.2 hc
        dsimp only
        refine Ev.steps 1 (ip' := 48) (ls' := [some (.inr (.inr (some (100, 0)))), some (.inr (.inr (some (6, v1)))), some (.inr (.inr (some (7, v2)))), some (.inl v3)]) (st' := [.inl (0 : Int32)]) (M' := mem E mu5 la6) rfl ?_
        exact Ev.retZ rfl rfl (Or.inl rfl) ⟨_, _, _, rfl, rfl, h⟩
    · have h := h.2 hc0
      by_cases hc1 : ((E.2.1 v3.toNatClampNeg) &&& (63 : Int32)) = 1
      · refine Ev.one (s' := (49, [some (.inr (.inr (some (100, 0)))), some (.inr (.inr (some (6, v1)))), some (.inr (.inr (some (7, v2)))), some (.inl v3)], [], mem E mu la)) rfl rfl rfl (by rw [hc1]; rfl) ?_
        have h := h.1 hc1
        dsimp only
        refine Ev.steps 5 (ip' := 54) (ls' := [some (.inr (.inr (some (100, 0)))), some (.inr (.inr (some (6, v1)))), some (.inr (.inr (some (7, v2)))), some (.inl v3)]) (st' := [.inl (v3 + (1 : Int32)), .inr (.inr (some (100, 0))), .inr (.inr (some (6, v1)))]) (M' := mem E mu la) rfl ?_
        refine Ev.alx rfl h.1 ?_
        have h := h.2
        refine Ev.steps 4 (ip' := 59) (ls' := [some (.inr (.inr (some (100, 0)))), some (.inr (.inr (some (6, v1)))), some (.inr (.inr (some (7, v2)))), some (.inl v3)]) (st' := [.inl (v3 + (2 : Int32)), .inr (.inr (some (100, 0))), .inl (E.2.1 (v3 + (1 : Int32)).toNatClampNeg), .inr (.inr (some (6, v1)))]) (M' := mem E mu la) rfl ?_
        refine Ev.alx rfl h.1 ?_
        have h := h.2
        refine Ev.steps 4 (ip' := 64) (ls' := [some (.inr (.inr (some (100, 0)))), some (.inr (.inr (some (6, v1)))), some (.inr (.inr (some (7, v2)))), some (.inl v3)]) (st' := [.inl (v3 + (3 : Int32)), .inr (.inr (some (100, 0))), .inl (E.2.1 (v3 + (2 : Int32)).toNatClampNeg), .inl (E.2.1 (v3 + (1 : Int32)).toNatClampNeg), .inr (.inr (some (6, v1)))]) (M' := mem E mu la) rfl ?_
        refine Ev.alx rfl h.1 ?_
        have h := h.2
        refine Ev.ci (J := mi_51) (as := [.inr (.inr (some (6, v1))), .inl (E.2.1 (v3 + (1 : Int32)).toNatClampNeg), .inl (E.2.1 (v3 + (2 : Int32)).toNatClampNeg), .inl (E.2.1 (v3 + (3 : Int32)).toNatClampNeg)]) (rest := []) rfl rfl rfl (Nat.le_of_ble_eq_true rfl) h (fun x7 mu8 la9 h => ?_)
        refine Ev.steps 5 (ip' := 71) (ls' := [some (.inr (.inr (some (100, 0)))), some (.inr (.inr (some (6, v1)))), some (.inr (.inr (some (7, v2)))), some (.inl v3)]) (st' := [.inl (v3 + (1 : Int32)), .inr (.inr (some (100, 0))), .inr (.inr (some (7, v2))), .inl x7]) (M' := mem E mu8 la9) rfl ?_
        refine Ev.alx rfl h.1 ?_
        have h := h.2
        refine Ev.steps 4 (ip' := 76) (ls' := [some (.inr (.inr (some (100, 0)))), some (.inr (.inr (some (6, v1)))), some (.inr (.inr (some (7, v2)))), some (.inl v3)]) (st' := [.inl (v3 + (2 : Int32)), .inr (.inr (some (100, 0))), .inl (E.2.1 (v3 + (1 : Int32)).toNatClampNeg), .inr (.inr (some (7, v2))), .inl x7]) (M' := mem E mu8 la9) rfl ?_
        refine Ev.alx rfl h.1 ?_
        have h := h.2
        refine Ev.steps 4 (ip' := 81) (ls' := [some (.inr (.inr (some (100, 0)))), some (.inr (.inr (some (6, v1)))), some (.inr (.inr (some (7, v2)))), some (.inl v3)]) (st' := [.inl (v3 + (3 : Int32)), .inr (.inr (some (100, 0))), .inl (E.2.1 (v3 + (2 : Int32)).toNatClampNeg), .inl (E.2.1 (v3 + (1 : Int32)).toNatClampNeg), .inr (.inr (some (7, v2))), .inl x7]) (M' := mem E mu8 la9) rfl ?_
        refine Ev.alx rfl h.1 ?_
        have h := h.2
        refine Ev.ci (J := mi_138) (as := [.inr (.inr (some (7, v2))), .inl (E.2.1 (v3 + (1 : Int32)).toNatClampNeg), .inl (E.2.1 (v3 + (2 : Int32)).toNatClampNeg), .inl (E.2.1 (v3 + (3 : Int32)).toNatClampNeg)]) (rest := [.inl x7]) rfl rfl rfl (Nat.le_of_ble_eq_true rfl) h (fun x10 mu11 la12 h => ?_)
        refine Ev.br (c := x7 = x10) (s1 := (890, [some (.inr (.inr (some (100, 0)))), some (.inr (.inr (some (6, v1)))), some (.inr (.inr (some (7, v2)))), some (.inl v3)], [], mem E mu11 la12)) (s2 := (84, [some (.inr (.inr (some (100, 0)))), some (.inr (.inr (some (6, v1)))), some (.inr (.inr (some (7, v2)))), some (.inl v3)], [], mem E mu11 la12)) rfl rfl rfl rfl (fun hc => ?_) (fun hc => ?_)
        · have h := h.1 hc
          dsimp only
          refine Ev.steps 2 (ip' := 10) (ls' := [some (.inr (.inr (some (100, 0)))), some (.inr (.inr (some (6, v1)))), some (.inr (.inr (some (7, v2)))), some (.inl (v3 + (6 : Int32)))]) (st' := []) (M' := mem E mu11 la12) rfl ?_
          exact h
        · have h := h.2 hc
          dsimp only
          refine Ev.steps 1 (ip' := 85) (ls' := [some (.inr (.inr (some (100, 0)))), some (.inr (.inr (some (6, v1)))), some (.inr (.inr (some (7, v2)))), some (.inl v3)]) (st' := [.inl (0 : Int32)]) (M' := mem E mu11 la12) rfl ?_
          exact Ev.retZ rfl rfl (Or.inl rfl) ⟨_, _, _, rfl, rfl, h⟩
      · have h := h.2 hc1
        by_cases hc2 : ((E.2.1 v3.toNatClampNeg) &&& (63 : Int32)) = 2
        · refine Ev.one (s' := (86, [some (.inr (.inr (some (100, 0)))), some (.inr (.inr (some (6, v1)))), some (.inr (.inr (some (7, v2)))), some (.inl v3)], [], mem E mu la)) rfl rfl rfl (by rw [hc2]; rfl) ?_
          have h := h.1 hc2
          dsimp only
          refine Ev.steps 5 (ip' := 91) (ls' := [some (.inr (.inr (some (100, 0)))), some (.inr (.inr (some (6, v1)))), some (.inr (.inr (some (7, v2)))), some (.inl v3)]) (st' := [.inl (v3 + (1 : Int32)), .inr (.inr (some (100, 0))), .inr (.inr (some (6, v1)))]) (M' := mem E mu la) rfl ?_
          refine Ev.alx rfl h.1 ?_
          have h := h.2
          refine Ev.steps 4 (ip' := 96) (ls' := [some (.inr (.inr (some (100, 0)))), some (.inr (.inr (some (6, v1)))), some (.inr (.inr (some (7, v2)))), some (.inl v3)]) (st' := [.inl (v3 + (2 : Int32)), .inr (.inr (some (100, 0))), .inl (E.2.1 (v3 + (1 : Int32)).toNatClampNeg), .inr (.inr (some (6, v1)))]) (M' := mem E mu la) rfl ?_
          refine Ev.alx rfl h.1 ?_
          have h := h.2
          refine Ev.ci (J := mi_52) (as := [.inr (.inr (some (6, v1))), .inl (E.2.1 (v3 + (1 : Int32)).toNatClampNeg), .inl (E.2.1 (v3 + (2 : Int32)).toNatClampNeg)]) (rest := []) rfl rfl rfl (Nat.le_of_ble_eq_true rfl) h (fun x13 mu14 la15 h => ?_)
          refine Ev.steps 5 (ip' := 103) (ls' := [some (.inr (.inr (some (100, 0)))), some (.inr (.inr (some (6, v1)))), some (.inr (.inr (some (7, v2)))), some (.inl v3)]) (st' := [.inl (v3 + (1 : Int32)), .inr (.inr (some (100, 0))), .inr (.inr (some (7, v2))), .inl x13]) (M' := mem E mu14 la15) rfl ?_
          refine Ev.alx rfl h.1 ?_
          have h := h.2
          refine Ev.steps 4 (ip' := 108) (ls' := [some (.inr (.inr (some (100, 0)))), some (.inr (.inr (some (6, v1)))), some (.inr (.inr (some (7, v2)))), some (.inl v3)]) (st' := [.inl (v3 + (2 : Int32)), .inr (.inr (some (100, 0))), .inl (E.2.1 (v3 + (1 : Int32)).toNatClampNeg), .inr (.inr (some (7, v2))), .inl x13]) (M' := mem E mu14 la15) rfl ?_
          refine Ev.alx rfl h.1 ?_
          have h := h.2
          refine Ev.ci (J := mi_139) (as := [.inr (.inr (some (7, v2))), .inl (E.2.1 (v3 + (1 : Int32)).toNatClampNeg), .inl (E.2.1 (v3 + (2 : Int32)).toNatClampNeg)]) (rest := [.inl x13]) rfl rfl rfl (Nat.le_of_ble_eq_true rfl) h (fun x16 mu17 la18 h => ?_)
          refine Ev.br (c := x13 = x16) (s1 := (890, [some (.inr (.inr (some (100, 0)))), some (.inr (.inr (some (6, v1)))), some (.inr (.inr (some (7, v2)))), some (.inl v3)], [], mem E mu17 la18)) (s2 := (111, [some (.inr (.inr (some (100, 0)))), some (.inr (.inr (some (6, v1)))), some (.inr (.inr (some (7, v2)))), some (.inl v3)], [], mem E mu17 la18)) rfl rfl rfl rfl (fun hc => ?_) (fun hc => ?_)
          · have h := h.1 hc
            dsimp only
            refine Ev.steps 2 (ip' := 10) (ls' := [some (.inr (.inr (some (100, 0)))), some (.inr (.inr (some (6, v1)))), some (.inr (.inr (some (7, v2)))), some (.inl (v3 + (6 : Int32)))]) (st' := []) (M' := mem E mu17 la18) rfl ?_
            exact h
          · have h := h.2 hc
            dsimp only
            refine Ev.steps 1 (ip' := 112) (ls' := [some (.inr (.inr (some (100, 0)))), some (.inr (.inr (some (6, v1)))), some (.inr (.inr (some (7, v2)))), some (.inl v3)]) (st' := [.inl (0 : Int32)]) (M' := mem E mu17 la18) rfl ?_
            exact Ev.retZ rfl rfl (Or.inl rfl) ⟨_, _, _, rfl, rfl, h⟩
        · have h := h.2 hc2
          by_cases hc3 : ((E.2.1 v3.toNatClampNeg) &&& (63 : Int32)) = 3
          · refine Ev.one (s' := (113, [some (.inr (.inr (some (100, 0)))), some (.inr (.inr (some (6, v1)))), some (.inr (.inr (some (7, v2)))), some (.inl v3)], [], mem E mu la)) rfl rfl rfl (by rw [hc3]; rfl) ?_
            have h := h.1 hc3
            dsimp only
            refine Ev.steps 5 (ip' := 118) (ls' := [some (.inr (.inr (some (100, 0)))), some (.inr (.inr (some (6, v1)))), some (.inr (.inr (some (7, v2)))), some (.inl v3)]) (st' := [.inl (v3 + (1 : Int32)), .inr (.inr (some (100, 0))), .inr (.inr (some (6, v1)))]) (M' := mem E mu la) rfl ?_
            refine Ev.alx rfl h.1 ?_
            have h := h.2
            refine Ev.ci (J := mi_53) (as := [.inr (.inr (some (6, v1))), .inl (E.2.1 (v3 + (1 : Int32)).toNatClampNeg)]) (rest := []) rfl rfl rfl (Nat.le_of_ble_eq_true rfl) h (fun x19 mu20 la21 h => ?_)
            refine Ev.steps 5 (ip' := 125) (ls' := [some (.inr (.inr (some (100, 0)))), some (.inr (.inr (some (6, v1)))), some (.inr (.inr (some (7, v2)))), some (.inl v3)]) (st' := [.inl (v3 + (1 : Int32)), .inr (.inr (some (100, 0))), .inr (.inr (some (7, v2))), .inl x19]) (M' := mem E mu20 la21) rfl ?_
            refine Ev.alx rfl h.1 ?_
            have h := h.2
            refine Ev.ci (J := mi_140) (as := [.inr (.inr (some (7, v2))), .inl (E.2.1 (v3 + (1 : Int32)).toNatClampNeg)]) (rest := [.inl x19]) rfl rfl rfl (Nat.le_of_ble_eq_true rfl) h (fun x22 mu23 la24 h => ?_)
            refine Ev.br (c := x19 = x22) (s1 := (890, [some (.inr (.inr (some (100, 0)))), some (.inr (.inr (some (6, v1)))), some (.inr (.inr (some (7, v2)))), some (.inl v3)], [], mem E mu23 la24)) (s2 := (128, [some (.inr (.inr (some (100, 0)))), some (.inr (.inr (some (6, v1)))), some (.inr (.inr (some (7, v2)))), some (.inl v3)], [], mem E mu23 la24)) rfl rfl rfl rfl (fun hc => ?_) (fun hc => ?_)
            · have h := h.1 hc
              dsimp only
              refine Ev.steps 2 (ip' := 10) (ls' := [some (.inr (.inr (some (100, 0)))), some (.inr (.inr (some (6, v1)))), some (.inr (.inr (some (7, v2)))), some (.inl (v3 + (6 : Int32)))]) (st' := []) (M' := mem E mu23 la24) rfl ?_
              exact h
            · have h := h.2 hc
              dsimp only
              refine Ev.steps 1 (ip' := 129) (ls' := [some (.inr (.inr (some (100, 0)))), some (.inr (.inr (some (6, v1)))), some (.inr (.inr (some (7, v2)))), some (.inl v3)]) (st' := [.inl (0 : Int32)]) (M' := mem E mu23 la24) rfl ?_
              exact Ev.retZ rfl rfl (Or.inl rfl) ⟨_, _, _, rfl, rfl, h⟩
          · have h := h.2 hc3
            by_cases hc4 : ((E.2.1 v3.toNatClampNeg) &&& (63 : Int32)) = 4
            · refine Ev.one (s' := (130, [some (.inr (.inr (some (100, 0)))), some (.inr (.inr (some (6, v1)))), some (.inr (.inr (some (7, v2)))), some (.inl v3)], [], mem E mu la)) rfl rfl rfl (by rw [hc4]; rfl) ?_
              have h := h.1 hc4
              dsimp only
              refine Ev.steps 5 (ip' := 135) (ls' := [some (.inr (.inr (some (100, 0)))), some (.inr (.inr (some (6, v1)))), some (.inr (.inr (some (7, v2)))), some (.inl v3)]) (st' := [.inl (v3 + (1 : Int32)), .inr (.inr (some (100, 0))), .inr (.inr (some (6, v1)))]) (M' := mem E mu la) rfl ?_
              refine Ev.alx rfl h.1 ?_
              have h := h.2
              refine Ev.steps 4 (ip' := 140) (ls' := [some (.inr (.inr (some (100, 0)))), some (.inr (.inr (some (6, v1)))), some (.inr (.inr (some (7, v2)))), some (.inl v3)]) (st' := [.inl (v3 + (2 : Int32)), .inr (.inr (some (100, 0))), .inl (E.2.1 (v3 + (1 : Int32)).toNatClampNeg), .inr (.inr (some (6, v1)))]) (M' := mem E mu la) rfl ?_
              refine Ev.alx rfl h.1 ?_
              have h := h.2
              refine Ev.steps 4 (ip' := 145) (ls' := [some (.inr (.inr (some (100, 0)))), some (.inr (.inr (some (6, v1)))), some (.inr (.inr (some (7, v2)))), some (.inl v3)]) (st' := [.inl (v3 + (3 : Int32)), .inr (.inr (some (100, 0))), .inl (E.2.1 (v3 + (2 : Int32)).toNatClampNeg), .inl (E.2.1 (v3 + (1 : Int32)).toNatClampNeg), .inr (.inr (some (6, v1)))]) (M' := mem E mu la) rfl ?_
              refine Ev.alx rfl h.1 ?_
              have h := h.2
              refine Ev.steps 4 (ip' := 150) (ls' := [some (.inr (.inr (some (100, 0)))), some (.inr (.inr (some (6, v1)))), some (.inr (.inr (some (7, v2)))), some (.inl v3)]) (st' := [.inl (v3 + (4 : Int32)), .inr (.inr (some (100, 0))), .inl (E.2.1 (v3 + (3 : Int32)).toNatClampNeg), .inl (E.2.1 (v3 + (2 : Int32)).toNatClampNeg), .inl (E.2.1 (v3 + (1 : Int32)).toNatClampNeg), .inr (.inr (some (6, v1)))]) (M' := mem E mu la) rfl ?_
              refine Ev.alx rfl h.1 ?_
              have h := h.2
              refine Ev.steps 4 (ip' := 155) (ls' := [some (.inr (.inr (some (100, 0)))), some (.inr (.inr (some (6, v1)))), some (.inr (.inr (some (7, v2)))), some (.inl v3)]) (st' := [.inl (v3 + (5 : Int32)), .inr (.inr (some (100, 0))), .inl (E.2.1 (v3 + (4 : Int32)).toNatClampNeg), .inl (E.2.1 (v3 + (3 : Int32)).toNatClampNeg), .inl (E.2.1 (v3 + (2 : Int32)).toNatClampNeg), .inl (E.2.1 (v3 + (1 : Int32)).toNatClampNeg), .inr (.inr (some (6, v1)))]) (M' := mem E mu la) rfl ?_
              refine Ev.alx rfl h.1 ?_
              have h := h.2
              refine Ev.ci (J := mi_54) (as := [.inr (.inr (some (6, v1))), .inl (E.2.1 (v3 + (1 : Int32)).toNatClampNeg), .inl (E.2.1 (v3 + (2 : Int32)).toNatClampNeg), .inl (E.2.1 (v3 + (3 : Int32)).toNatClampNeg), .inl (E.2.1 (v3 + (4 : Int32)).toNatClampNeg), .inl (E.2.1 (v3 + (5 : Int32)).toNatClampNeg)]) (rest := []) rfl rfl rfl (Nat.le_of_ble_eq_true rfl) h (fun x25 mu26 la27 h => ?_)
              refine Ev.steps 5 (ip' := 162) (ls' := [some (.inr (.inr (some (100, 0)))), some (.inr (.inr (some (6, v1)))), some (.inr (.inr (some (7, v2)))), some (.inl v3)]) (st' := [.inl (v3 + (1 : Int32)), .inr (.inr (some (100, 0))), .inr (.inr (some (7, v2))), .inl x25]) (M' := mem E mu26 la27) rfl ?_
              refine Ev.alx rfl h.1 ?_
              have h := h.2
              refine Ev.steps 4 (ip' := 167) (ls' := [some (.inr (.inr (some (100, 0)))), some (.inr (.inr (some (6, v1)))), some (.inr (.inr (some (7, v2)))), some (.inl v3)]) (st' := [.inl (v3 + (2 : Int32)), .inr (.inr (some (100, 0))), .inl (E.2.1 (v3 + (1 : Int32)).toNatClampNeg), .inr (.inr (some (7, v2))), .inl x25]) (M' := mem E mu26 la27) rfl ?_
              refine Ev.alx rfl h.1 ?_
              have h := h.2
              refine Ev.steps 4 (ip' := 172) (ls' := [some (.inr (.inr (some (100, 0)))), some (.inr (.inr (some (6, v1)))), some (.inr (.inr (some (7, v2)))), some (.inl v3)]) (st' := [.inl (v3 + (3 : Int32)), .inr (.inr (some (100, 0))), .inl (E.2.1 (v3 + (2 : Int32)).toNatClampNeg), .inl (E.2.1 (v3 + (1 : Int32)).toNatClampNeg), .inr (.inr (some (7, v2))), .inl x25]) (M' := mem E mu26 la27) rfl ?_
              refine Ev.alx rfl h.1 ?_
              have h := h.2
              refine Ev.steps 4 (ip' := 177) (ls' := [some (.inr (.inr (some (100, 0)))), some (.inr (.inr (some (6, v1)))), some (.inr (.inr (some (7, v2)))), some (.inl v3)]) (st' := [.inl (v3 + (4 : Int32)), .inr (.inr (some (100, 0))), .inl (E.2.1 (v3 + (3 : Int32)).toNatClampNeg), .inl (E.2.1 (v3 + (2 : Int32)).toNatClampNeg), .inl (E.2.1 (v3 + (1 : Int32)).toNatClampNeg), .inr (.inr (some (7, v2))), .inl x25]) (M' := mem E mu26 la27) rfl ?_
              refine Ev.alx rfl h.1 ?_
              have h := h.2
              refine Ev.steps 4 (ip' := 182) (ls' := [some (.inr (.inr (some (100, 0)))), some (.inr (.inr (some (6, v1)))), some (.inr (.inr (some (7, v2)))), some (.inl v3)]) (st' := [.inl (v3 + (5 : Int32)), .inr (.inr (some (100, 0))), .inl (E.2.1 (v3 + (4 : Int32)).toNatClampNeg), .inl (E.2.1 (v3 + (3 : Int32)).toNatClampNeg), .inl (E.2.1 (v3 + (2 : Int32)).toNatClampNeg), .inl (E.2.1 (v3 + (1 : Int32)).toNatClampNeg), .inr (.inr (some (7, v2))), .inl x25]) (M' := mem E mu26 la27) rfl ?_
              refine Ev.alx rfl h.1 ?_
              have h := h.2
              refine Ev.ci (J := mi_141) (as := [.inr (.inr (some (7, v2))), .inl (E.2.1 (v3 + (1 : Int32)).toNatClampNeg), .inl (E.2.1 (v3 + (2 : Int32)).toNatClampNeg), .inl (E.2.1 (v3 + (3 : Int32)).toNatClampNeg), .inl (E.2.1 (v3 + (4 : Int32)).toNatClampNeg), .inl (E.2.1 (v3 + (5 : Int32)).toNatClampNeg)]) (rest := [.inl x25]) rfl rfl rfl (Nat.le_of_ble_eq_true rfl) h (fun x28 mu29 la30 h => ?_)
              refine Ev.br (c := x25 = x28) (s1 := (890, [some (.inr (.inr (some (100, 0)))), some (.inr (.inr (some (6, v1)))), some (.inr (.inr (some (7, v2)))), some (.inl v3)], [], mem E mu29 la30)) (s2 := (185, [some (.inr (.inr (some (100, 0)))), some (.inr (.inr (some (6, v1)))), some (.inr (.inr (some (7, v2)))), some (.inl v3)], [], mem E mu29 la30)) rfl rfl rfl rfl (fun hc => ?_) (fun hc => ?_)
              · have h := h.1 hc
                dsimp only
                refine Ev.steps 2 (ip' := 10) (ls' := [some (.inr (.inr (some (100, 0)))), some (.inr (.inr (some (6, v1)))), some (.inr (.inr (some (7, v2)))), some (.inl (v3 + (6 : Int32)))]) (st' := []) (M' := mem E mu29 la30) rfl ?_
                exact h
              · have h := h.2 hc
                dsimp only
                refine Ev.steps 1 (ip' := 186) (ls' := [some (.inr (.inr (some (100, 0)))), some (.inr (.inr (some (6, v1)))), some (.inr (.inr (some (7, v2)))), some (.inl v3)]) (st' := [.inl (0 : Int32)]) (M' := mem E mu29 la30) rfl ?_
                exact Ev.retZ rfl rfl (Or.inl rfl) ⟨_, _, _, rfl, rfl, h⟩
            · have h := h.2 hc4
              by_cases hc5 : ((E.2.1 v3.toNatClampNeg) &&& (63 : Int32)) = 5
              · refine Ev.one (s' := (187, [some (.inr (.inr (some (100, 0)))), some (.inr (.inr (some (6, v1)))), some (.inr (.inr (some (7, v2)))), some (.inl v3)], [], mem E mu la)) rfl rfl rfl (by rw [hc5]; rfl) ?_
                have h := h.1 hc5
                dsimp only
                refine Ev.steps 5 (ip' := 192) (ls' := [some (.inr (.inr (some (100, 0)))), some (.inr (.inr (some (6, v1)))), some (.inr (.inr (some (7, v2)))), some (.inl v3)]) (st' := [.inl (v3 + (1 : Int32)), .inr (.inr (some (100, 0))), .inr (.inr (some (6, v1)))]) (M' := mem E mu la) rfl ?_
                refine Ev.alx rfl h.1 ?_
                have h := h.2
                refine Ev.ci (J := mi_55) (as := [.inr (.inr (some (6, v1))), .inl (E.2.1 (v3 + (1 : Int32)).toNatClampNeg)]) (rest := []) rfl rfl rfl (Nat.le_of_ble_eq_true rfl) h (fun x31 mu32 la33 h => ?_)
                refine Ev.steps 5 (ip' := 199) (ls' := [some (.inr (.inr (some (100, 0)))), some (.inr (.inr (some (6, v1)))), some (.inr (.inr (some (7, v2)))), some (.inl v3)]) (st' := [.inl (v3 + (1 : Int32)), .inr (.inr (some (100, 0))), .inr (.inr (some (7, v2))), .inl x31]) (M' := mem E mu32 la33) rfl ?_
                refine Ev.alx rfl h.1 ?_
                have h := h.2
                refine Ev.ci (J := mi_142) (as := [.inr (.inr (some (7, v2))), .inl (E.2.1 (v3 + (1 : Int32)).toNatClampNeg)]) (rest := [.inl x31]) rfl rfl rfl (Nat.le_of_ble_eq_true rfl) h (fun x34 mu35 la36 h => ?_)
                refine Ev.br (c := x31 = x34) (s1 := (890, [some (.inr (.inr (some (100, 0)))), some (.inr (.inr (some (6, v1)))), some (.inr (.inr (some (7, v2)))), some (.inl v3)], [], mem E mu35 la36)) (s2 := (202, [some (.inr (.inr (some (100, 0)))), some (.inr (.inr (some (6, v1)))), some (.inr (.inr (some (7, v2)))), some (.inl v3)], [], mem E mu35 la36)) rfl rfl rfl rfl (fun hc => ?_) (fun hc => ?_)
                · have h := h.1 hc
                  dsimp only
                  refine Ev.steps 2 (ip' := 10) (ls' := [some (.inr (.inr (some (100, 0)))), some (.inr (.inr (some (6, v1)))), some (.inr (.inr (some (7, v2)))), some (.inl (v3 + (6 : Int32)))]) (st' := []) (M' := mem E mu35 la36) rfl ?_
                  exact h
                · have h := h.2 hc
                  dsimp only
                  refine Ev.steps 1 (ip' := 203) (ls' := [some (.inr (.inr (some (100, 0)))), some (.inr (.inr (some (6, v1)))), some (.inr (.inr (some (7, v2)))), some (.inl v3)]) (st' := [.inl (0 : Int32)]) (M' := mem E mu35 la36) rfl ?_
                  exact Ev.retZ rfl rfl (Or.inl rfl) ⟨_, _, _, rfl, rfl, h⟩
              · have h := h.2 hc5
                by_cases hc6 : ((E.2.1 v3.toNatClampNeg) &&& (63 : Int32)) = 6
                · refine Ev.one (s' := (204, [some (.inr (.inr (some (100, 0)))), some (.inr (.inr (some (6, v1)))), some (.inr (.inr (some (7, v2)))), some (.inl v3)], [], mem E mu la)) rfl rfl rfl (by rw [hc6]; rfl) ?_
                  have h := h.1 hc6
                  dsimp only
                  refine Ev.steps 5 (ip' := 209) (ls' := [some (.inr (.inr (some (100, 0)))), some (.inr (.inr (some (6, v1)))), some (.inr (.inr (some (7, v2)))), some (.inl v3)]) (st' := [.inl (v3 + (1 : Int32)), .inr (.inr (some (100, 0))), .inr (.inr (some (6, v1)))]) (M' := mem E mu la) rfl ?_
                  refine Ev.alx rfl h.1 ?_
                  have h := h.2
                  refine Ev.steps 4 (ip' := 214) (ls' := [some (.inr (.inr (some (100, 0)))), some (.inr (.inr (some (6, v1)))), some (.inr (.inr (some (7, v2)))), some (.inl v3)]) (st' := [.inl (v3 + (2 : Int32)), .inr (.inr (some (100, 0))), .inl (E.2.1 (v3 + (1 : Int32)).toNatClampNeg), .inr (.inr (some (6, v1)))]) (M' := mem E mu la) rfl ?_
                  refine Ev.alx rfl h.1 ?_
                  have h := h.2
                  refine Ev.ci (J := mi_56) (as := [.inr (.inr (some (6, v1))), .inl (E.2.1 (v3 + (1 : Int32)).toNatClampNeg), .inl (E.2.1 (v3 + (2 : Int32)).toNatClampNeg)]) (rest := []) rfl rfl rfl (Nat.le_of_ble_eq_true rfl) h (fun x37 mu38 la39 h => ?_)
                  refine Ev.steps 5 (ip' := 221) (ls' := [some (.inr (.inr (some (100, 0)))), some (.inr (.inr (some (6, v1)))), some (.inr (.inr (some (7, v2)))), some (.inl v3)]) (st' := [.inl (v3 + (1 : Int32)), .inr (.inr (some (100, 0))), .inr (.inr (some (7, v2))), .inl x37]) (M' := mem E mu38 la39) rfl ?_
                  refine Ev.alx rfl h.1 ?_
                  have h := h.2
                  refine Ev.steps 4 (ip' := 226) (ls' := [some (.inr (.inr (some (100, 0)))), some (.inr (.inr (some (6, v1)))), some (.inr (.inr (some (7, v2)))), some (.inl v3)]) (st' := [.inl (v3 + (2 : Int32)), .inr (.inr (some (100, 0))), .inl (E.2.1 (v3 + (1 : Int32)).toNatClampNeg), .inr (.inr (some (7, v2))), .inl x37]) (M' := mem E mu38 la39) rfl ?_
                  refine Ev.alx rfl h.1 ?_
                  have h := h.2
                  refine Ev.ci (J := mi_143) (as := [.inr (.inr (some (7, v2))), .inl (E.2.1 (v3 + (1 : Int32)).toNatClampNeg), .inl (E.2.1 (v3 + (2 : Int32)).toNatClampNeg)]) (rest := [.inl x37]) rfl rfl rfl (Nat.le_of_ble_eq_true rfl) h (fun x40 mu41 la42 h => ?_)
                  refine Ev.br (c := x37 = x40) (s1 := (890, [some (.inr (.inr (some (100, 0)))), some (.inr (.inr (some (6, v1)))), some (.inr (.inr (some (7, v2)))), some (.inl v3)], [], mem E mu41 la42)) (s2 := (229, [some (.inr (.inr (some (100, 0)))), some (.inr (.inr (some (6, v1)))), some (.inr (.inr (some (7, v2)))), some (.inl v3)], [], mem E mu41 la42)) rfl rfl rfl rfl (fun hc => ?_) (fun hc => ?_)
                  · have h := h.1 hc
                    dsimp only
                    refine Ev.steps 2 (ip' := 10) (ls' := [some (.inr (.inr (some (100, 0)))), some (.inr (.inr (some (6, v1)))), some (.inr (.inr (some (7, v2)))), some (.inl (v3 + (6 : Int32)))]) (st' := []) (M' := mem E mu41 la42) rfl ?_
                    exact h
                  · have h := h.2 hc
                    dsimp only
                    refine Ev.steps 1 (ip' := 230) (ls' := [some (.inr (.inr (some (100, 0)))), some (.inr (.inr (some (6, v1)))), some (.inr (.inr (some (7, v2)))), some (.inl v3)]) (st' := [.inl (0 : Int32)]) (M' := mem E mu41 la42) rfl ?_
                    exact Ev.retZ rfl rfl (Or.inl rfl) ⟨_, _, _, rfl, rfl, h⟩
                · have h := h.2 hc6
                  by_cases hc7 : ((E.2.1 v3.toNatClampNeg) &&& (63 : Int32)) = 7
                  · refine Ev.one (s' := (231, [some (.inr (.inr (some (100, 0)))), some (.inr (.inr (some (6, v1)))), some (.inr (.inr (some (7, v2)))), some (.inl v3)], [], mem E mu la)) rfl rfl rfl (by rw [hc7]; rfl) ?_
                    have h := h.1 hc7
                    dsimp only
                    refine Ev.steps 5 (ip' := 236) (ls' := [some (.inr (.inr (some (100, 0)))), some (.inr (.inr (some (6, v1)))), some (.inr (.inr (some (7, v2)))), some (.inl v3)]) (st' := [.inl (v3 + (1 : Int32)), .inr (.inr (some (100, 0))), .inr (.inr (some (6, v1)))]) (M' := mem E mu la) rfl ?_
                    refine Ev.alx rfl h.1 ?_
                    have h := h.2
                    refine Ev.steps 4 (ip' := 241) (ls' := [some (.inr (.inr (some (100, 0)))), some (.inr (.inr (some (6, v1)))), some (.inr (.inr (some (7, v2)))), some (.inl v3)]) (st' := [.inl (v3 + (2 : Int32)), .inr (.inr (some (100, 0))), .inl (E.2.1 (v3 + (1 : Int32)).toNatClampNeg), .inr (.inr (some (6, v1)))]) (M' := mem E mu la) rfl ?_
                    refine Ev.alx rfl h.1 ?_
                    have h := h.2
                    refine Ev.steps 4 (ip' := 246) (ls' := [some (.inr (.inr (some (100, 0)))), some (.inr (.inr (some (6, v1)))), some (.inr (.inr (some (7, v2)))), some (.inl v3)]) (st' := [.inl (v3 + (3 : Int32)), .inr (.inr (some (100, 0))), .inl (E.2.1 (v3 + (2 : Int32)).toNatClampNeg), .inl (E.2.1 (v3 + (1 : Int32)).toNatClampNeg), .inr (.inr (some (6, v1)))]) (M' := mem E mu la) rfl ?_
                    refine Ev.alx rfl h.1 ?_
                    have h := h.2
                    refine Ev.ci (J := mi_57) (as := [.inr (.inr (some (6, v1))), .inl (E.2.1 (v3 + (1 : Int32)).toNatClampNeg), .inl (E.2.1 (v3 + (2 : Int32)).toNatClampNeg), .inl (E.2.1 (v3 + (3 : Int32)).toNatClampNeg)]) (rest := []) rfl rfl rfl (Nat.le_of_ble_eq_true rfl) h (fun x43 mu44 la45 h => ?_)
                    refine Ev.steps 5 (ip' := 253) (ls' := [some (.inr (.inr (some (100, 0)))), some (.inr (.inr (some (6, v1)))), some (.inr (.inr (some (7, v2)))), some (.inl v3)]) (st' := [.inl (v3 + (1 : Int32)), .inr (.inr (some (100, 0))), .inr (.inr (some (7, v2))), .inl x43]) (M' := mem E mu44 la45) rfl ?_
                    refine Ev.alx rfl h.1 ?_
                    have h := h.2
                    refine Ev.steps 4 (ip' := 258) (ls' := [some (.inr (.inr (some (100, 0)))), some (.inr (.inr (some (6, v1)))), some (.inr (.inr (some (7, v2)))), some (.inl v3)]) (st' := [.inl (v3 + (2 : Int32)), .inr (.inr (some (100, 0))), .inl (E.2.1 (v3 + (1 : Int32)).toNatClampNeg), .inr (.inr (some (7, v2))), .inl x43]) (M' := mem E mu44 la45) rfl ?_
                    refine Ev.alx rfl h.1 ?_
                    have h := h.2
                    refine Ev.steps 4 (ip' := 263) (ls' := [some (.inr (.inr (some (100, 0)))), some (.inr (.inr (some (6, v1)))), some (.inr (.inr (some (7, v2)))), some (.inl v3)]) (st' := [.inl (v3 + (3 : Int32)), .inr (.inr (some (100, 0))), .inl (E.2.1 (v3 + (2 : Int32)).toNatClampNeg), .inl (E.2.1 (v3 + (1 : Int32)).toNatClampNeg), .inr (.inr (some (7, v2))), .inl x43]) (M' := mem E mu44 la45) rfl ?_
                    refine Ev.alx rfl h.1 ?_
                    have h := h.2
                    refine Ev.ci (J := mi_144) (as := [.inr (.inr (some (7, v2))), .inl (E.2.1 (v3 + (1 : Int32)).toNatClampNeg), .inl (E.2.1 (v3 + (2 : Int32)).toNatClampNeg), .inl (E.2.1 (v3 + (3 : Int32)).toNatClampNeg)]) (rest := [.inl x43]) rfl rfl rfl (Nat.le_of_ble_eq_true rfl) h (fun x46 mu47 la48 h => ?_)
                    refine Ev.br (c := x43 = x46) (s1 := (890, [some (.inr (.inr (some (100, 0)))), some (.inr (.inr (some (6, v1)))), some (.inr (.inr (some (7, v2)))), some (.inl v3)], [], mem E mu47 la48)) (s2 := (266, [some (.inr (.inr (some (100, 0)))), some (.inr (.inr (some (6, v1)))), some (.inr (.inr (some (7, v2)))), some (.inl v3)], [], mem E mu47 la48)) rfl rfl rfl rfl (fun hc => ?_) (fun hc => ?_)
                    · have h := h.1 hc
                      dsimp only
                      refine Ev.steps 2 (ip' := 10) (ls' := [some (.inr (.inr (some (100, 0)))), some (.inr (.inr (some (6, v1)))), some (.inr (.inr (some (7, v2)))), some (.inl (v3 + (6 : Int32)))]) (st' := []) (M' := mem E mu47 la48) rfl ?_
                      exact h
                    · have h := h.2 hc
                      dsimp only
                      refine Ev.steps 1 (ip' := 267) (ls' := [some (.inr (.inr (some (100, 0)))), some (.inr (.inr (some (6, v1)))), some (.inr (.inr (some (7, v2)))), some (.inl v3)]) (st' := [.inl (0 : Int32)]) (M' := mem E mu47 la48) rfl ?_
                      exact Ev.retZ rfl rfl (Or.inl rfl) ⟨_, _, _, rfl, rfl, h⟩
                  · have h := h.2 hc7
                    by_cases hc8 : ((E.2.1 v3.toNatClampNeg) &&& (63 : Int32)) = 8
                    · refine Ev.one (s' := (268, [some (.inr (.inr (some (100, 0)))), some (.inr (.inr (some (6, v1)))), some (.inr (.inr (some (7, v2)))), some (.inl v3)], [], mem E mu la)) rfl rfl rfl (by rw [hc8]; rfl) ?_
                      have h := h.1 hc8
                      dsimp only
                      refine Ev.steps 5 (ip' := 273) (ls' := [some (.inr (.inr (some (100, 0)))), some (.inr (.inr (some (6, v1)))), some (.inr (.inr (some (7, v2)))), some (.inl v3)]) (st' := [.inl (v3 + (1 : Int32)), .inr (.inr (some (100, 0))), .inr (.inr (some (6, v1)))]) (M' := mem E mu la) rfl ?_
                      refine Ev.alx rfl h.1 ?_
                      have h := h.2
                      refine Ev.ci (J := mi_58) (as := [.inr (.inr (some (6, v1))), .inl (E.2.1 (v3 + (1 : Int32)).toNatClampNeg)]) (rest := []) rfl rfl rfl (Nat.le_of_ble_eq_true rfl) h (fun x49 mu50 la51 h => ?_)
                      refine Ev.steps 5 (ip' := 280) (ls' := [some (.inr (.inr (some (100, 0)))), some (.inr (.inr (some (6, v1)))), some (.inr (.inr (some (7, v2)))), some (.inl v3)]) (st' := [.inl (v3 + (1 : Int32)), .inr (.inr (some (100, 0))), .inr (.inr (some (7, v2))), .inl x49]) (M' := mem E mu50 la51) rfl ?_
                      refine Ev.alx rfl h.1 ?_
                      have h := h.2
                      refine Ev.ci (J := mi_152) (as := [.inr (.inr (some (7, v2))), .inl (E.2.1 (v3 + (1 : Int32)).toNatClampNeg)]) (rest := [.inl x49]) rfl rfl rfl (Nat.le_of_ble_eq_true rfl) h (fun x52 mu53 la54 h => ?_)
                      refine Ev.br (c := x49 = x52) (s1 := (890, [some (.inr (.inr (some (100, 0)))), some (.inr (.inr (some (6, v1)))), some (.inr (.inr (some (7, v2)))), some (.inl v3)], [], mem E mu53 la54)) (s2 := (283, [some (.inr (.inr (some (100, 0)))), some (.inr (.inr (some (6, v1)))), some (.inr (.inr (some (7, v2)))), some (.inl v3)], [], mem E mu53 la54)) rfl rfl rfl rfl (fun hc => ?_) (fun hc => ?_)
                      · have h := h.1 hc
                        dsimp only
                        refine Ev.steps 2 (ip' := 10) (ls' := [some (.inr (.inr (some (100, 0)))), some (.inr (.inr (some (6, v1)))), some (.inr (.inr (some (7, v2)))), some (.inl (v3 + (6 : Int32)))]) (st' := []) (M' := mem E mu53 la54) rfl ?_
                        exact h
                      · have h := h.2 hc
                        dsimp only
                        refine Ev.steps 1 (ip' := 284) (ls' := [some (.inr (.inr (some (100, 0)))), some (.inr (.inr (some (6, v1)))), some (.inr (.inr (some (7, v2)))), some (.inl v3)]) (st' := [.inl (0 : Int32)]) (M' := mem E mu53 la54) rfl ?_
                        exact Ev.retZ rfl rfl (Or.inl rfl) ⟨_, _, _, rfl, rfl, h⟩
                    · have h := h.2 hc8
                      by_cases hc9 : ((E.2.1 v3.toNatClampNeg) &&& (63 : Int32)) = 9
                      · refine Ev.one (s' := (285, [some (.inr (.inr (some (100, 0)))), some (.inr (.inr (some (6, v1)))), some (.inr (.inr (some (7, v2)))), some (.inl v3)], [], mem E mu la)) rfl rfl rfl (by rw [hc9]; rfl) ?_
                        have h := h.1 hc9
                        dsimp only
                        refine Ev.steps 5 (ip' := 290) (ls' := [some (.inr (.inr (some (100, 0)))), some (.inr (.inr (some (6, v1)))), some (.inr (.inr (some (7, v2)))), some (.inl v3)]) (st' := [.inl (v3 + (1 : Int32)), .inr (.inr (some (100, 0))), .inr (.inr (some (6, v1)))]) (M' := mem E mu la) rfl ?_
                        refine Ev.alx rfl h.1 ?_
                        have h := h.2
                        refine Ev.ci (J := mi_59) (as := [.inr (.inr (some (6, v1))), .inl (E.2.1 (v3 + (1 : Int32)).toNatClampNeg)]) (rest := []) rfl rfl rfl (Nat.le_of_ble_eq_true rfl) h (fun x55 mu56 la57 h => ?_)
                        refine Ev.steps 5 (ip' := 297) (ls' := [some (.inr (.inr (some (100, 0)))), some (.inr (.inr (some (6, v1)))), some (.inr (.inr (some (7, v2)))), some (.inl v3)]) (st' := [.inl (v3 + (1 : Int32)), .inr (.inr (some (100, 0))), .inr (.inr (some (7, v2))), .inl x55]) (M' := mem E mu56 la57) rfl ?_
                        refine Ev.alx rfl h.1 ?_
                        have h := h.2
                        refine Ev.ci (J := mi_154) (as := [.inr (.inr (some (7, v2))), .inl (E.2.1 (v3 + (1 : Int32)).toNatClampNeg)]) (rest := [.inl x55]) rfl rfl rfl (Nat.le_of_ble_eq_true rfl) h (fun x58 mu59 la60 h => ?_)
                        refine Ev.br (c := x55 = x58) (s1 := (890, [some (.inr (.inr (some (100, 0)))), some (.inr (.inr (some (6, v1)))), some (.inr (.inr (some (7, v2)))), some (.inl v3)], [], mem E mu59 la60)) (s2 := (300, [some (.inr (.inr (some (100, 0)))), some (.inr (.inr (some (6, v1)))), some (.inr (.inr (some (7, v2)))), some (.inl v3)], [], mem E mu59 la60)) rfl rfl rfl rfl (fun hc => ?_) (fun hc => ?_)
                        · have h := h.1 hc
                          dsimp only
                          refine Ev.steps 2 (ip' := 10) (ls' := [some (.inr (.inr (some (100, 0)))), some (.inr (.inr (some (6, v1)))), some (.inr (.inr (some (7, v2)))), some (.inl (v3 + (6 : Int32)))]) (st' := []) (M' := mem E mu59 la60) rfl ?_
                          exact h
                        · have h := h.2 hc
                          dsimp only
                          refine Ev.steps 1 (ip' := 301) (ls' := [some (.inr (.inr (some (100, 0)))), some (.inr (.inr (some (6, v1)))), some (.inr (.inr (some (7, v2)))), some (.inl v3)]) (st' := [.inl (0 : Int32)]) (M' := mem E mu59 la60) rfl ?_
                          exact Ev.retZ rfl rfl (Or.inl rfl) ⟨_, _, _, rfl, rfl, h⟩
                      · have h := h.2 hc9
                        by_cases hc10 : ((E.2.1 v3.toNatClampNeg) &&& (63 : Int32)) = 10
                        · refine Ev.one (s' := (302, [some (.inr (.inr (some (100, 0)))), some (.inr (.inr (some (6, v1)))), some (.inr (.inr (some (7, v2)))), some (.inl v3)], [], mem E mu la)) rfl rfl rfl (by rw [hc10]; rfl) ?_
                          have h := h.1 hc10
                          dsimp only
                          refine Ev.steps 5 (ip' := 307) (ls' := [some (.inr (.inr (some (100, 0)))), some (.inr (.inr (some (6, v1)))), some (.inr (.inr (some (7, v2)))), some (.inl v3)]) (st' := [.inl (v3 + (1 : Int32)), .inr (.inr (some (100, 0))), .inr (.inr (some (6, v1)))]) (M' := mem E mu la) rfl ?_
                          refine Ev.alx rfl h.1 ?_
                          have h := h.2
                          refine Ev.steps 4 (ip' := 312) (ls' := [some (.inr (.inr (some (100, 0)))), some (.inr (.inr (some (6, v1)))), some (.inr (.inr (some (7, v2)))), some (.inl v3)]) (st' := [.inl (v3 + (2 : Int32)), .inr (.inr (some (100, 0))), .inl (E.2.1 (v3 + (1 : Int32)).toNatClampNeg), .inr (.inr (some (6, v1)))]) (M' := mem E mu la) rfl ?_
                          refine Ev.alx rfl h.1 ?_
                          have h := h.2
                          refine Ev.ci (J := mi_60) (as := [.inr (.inr (some (6, v1))), .inl (E.2.1 (v3 + (1 : Int32)).toNatClampNeg), .inl (E.2.1 (v3 + (2 : Int32)).toNatClampNeg)]) (rest := []) rfl rfl rfl (Nat.le_of_ble_eq_true rfl) h (fun x61 mu62 la63 h => ?_)
                          refine Ev.steps 5 (ip' := 319) (ls' := [some (.inr (.inr (some (100, 0)))), some (.inr (.inr (some (6, v1)))), some (.inr (.inr (some (7, v2)))), some (.inl v3)]) (st' := [.inl (v3 + (1 : Int32)), .inr (.inr (some (100, 0))), .inr (.inr (some (7, v2))), .inl x61]) (M' := mem E mu62 la63) rfl ?_
                          refine Ev.alx rfl h.1 ?_
                          have h := h.2
                          refine Ev.steps 4 (ip' := 324) (ls' := [some (.inr (.inr (some (100, 0)))), some (.inr (.inr (some (6, v1)))), some (.inr (.inr (some (7, v2)))), some (.inl v3)]) (st' := [.inl (v3 + (2 : Int32)), .inr (.inr (some (100, 0))), .inl (E.2.1 (v3 + (1 : Int32)).toNatClampNeg), .inr (.inr (some (7, v2))), .inl x61]) (M' := mem E mu62 la63) rfl ?_
                          refine Ev.alx rfl h.1 ?_
                          have h := h.2
                          refine Ev.ci (J := mi_168) (as := [.inr (.inr (some (7, v2))), .inl (E.2.1 (v3 + (1 : Int32)).toNatClampNeg), .inl (E.2.1 (v3 + (2 : Int32)).toNatClampNeg)]) (rest := [.inl x61]) rfl rfl rfl (Nat.le_of_ble_eq_true rfl) h (fun x64 mu65 la66 h => ?_)
                          refine Ev.br (c := x61 = x64) (s1 := (890, [some (.inr (.inr (some (100, 0)))), some (.inr (.inr (some (6, v1)))), some (.inr (.inr (some (7, v2)))), some (.inl v3)], [], mem E mu65 la66)) (s2 := (327, [some (.inr (.inr (some (100, 0)))), some (.inr (.inr (some (6, v1)))), some (.inr (.inr (some (7, v2)))), some (.inl v3)], [], mem E mu65 la66)) rfl rfl rfl rfl (fun hc => ?_) (fun hc => ?_)
                          · have h := h.1 hc
                            dsimp only
                            refine Ev.steps 2 (ip' := 10) (ls' := [some (.inr (.inr (some (100, 0)))), some (.inr (.inr (some (6, v1)))), some (.inr (.inr (some (7, v2)))), some (.inl (v3 + (6 : Int32)))]) (st' := []) (M' := mem E mu65 la66) rfl ?_
                            exact h
                          · have h := h.2 hc
                            dsimp only
                            refine Ev.steps 1 (ip' := 328) (ls' := [some (.inr (.inr (some (100, 0)))), some (.inr (.inr (some (6, v1)))), some (.inr (.inr (some (7, v2)))), some (.inl v3)]) (st' := [.inl (0 : Int32)]) (M' := mem E mu65 la66) rfl ?_
                            exact Ev.retZ rfl rfl (Or.inl rfl) ⟨_, _, _, rfl, rfl, h⟩
                        · have h := h.2 hc10
                          by_cases hc11 : ((E.2.1 v3.toNatClampNeg) &&& (63 : Int32)) = 11
                          · refine Ev.one (s' := (329, [some (.inr (.inr (some (100, 0)))), some (.inr (.inr (some (6, v1)))), some (.inr (.inr (some (7, v2)))), some (.inl v3)], [], mem E mu la)) rfl rfl rfl (by rw [hc11]; rfl) ?_
                            have h := h.1 hc11
                            dsimp only
                            refine Ev.steps 5 (ip' := 334) (ls' := [some (.inr (.inr (some (100, 0)))), some (.inr (.inr (some (6, v1)))), some (.inr (.inr (some (7, v2)))), some (.inl v3)]) (st' := [.inl (v3 + (1 : Int32)), .inr (.inr (some (100, 0))), .inr (.inr (some (6, v1)))]) (M' := mem E mu la) rfl ?_
                            refine Ev.alx rfl h.1 ?_
                            have h := h.2
                            refine Ev.steps 4 (ip' := 339) (ls' := [some (.inr (.inr (some (100, 0)))), some (.inr (.inr (some (6, v1)))), some (.inr (.inr (some (7, v2)))), some (.inl v3)]) (st' := [.inl (v3 + (2 : Int32)), .inr (.inr (some (100, 0))), .inl (E.2.1 (v3 + (1 : Int32)).toNatClampNeg), .inr (.inr (some (6, v1)))]) (M' := mem E mu la) rfl ?_
                            refine Ev.alx rfl h.1 ?_
                            have h := h.2
                            refine Ev.ci (J := mi_61) (as := [.inr (.inr (some (6, v1))), .inl (E.2.1 (v3 + (1 : Int32)).toNatClampNeg), .inl (E.2.1 (v3 + (2 : Int32)).toNatClampNeg)]) (rest := []) rfl rfl rfl (Nat.le_of_ble_eq_true rfl) h (fun x67 mu68 la69 h => ?_)
                            refine Ev.steps 5 (ip' := 346) (ls' := [some (.inr (.inr (some (100, 0)))), some (.inr (.inr (some (6, v1)))), some (.inr (.inr (some (7, v2)))), some (.inl v3)]) (st' := [.inl (v3 + (1 : Int32)), .inr (.inr (some (100, 0))), .inr (.inr (some (7, v2))), .inl x67]) (M' := mem E mu68 la69) rfl ?_
                            refine Ev.alx rfl h.1 ?_
                            have h := h.2
                            refine Ev.steps 4 (ip' := 351) (ls' := [some (.inr (.inr (some (100, 0)))), some (.inr (.inr (some (6, v1)))), some (.inr (.inr (some (7, v2)))), some (.inl v3)]) (st' := [.inl (v3 + (2 : Int32)), .inr (.inr (some (100, 0))), .inl (E.2.1 (v3 + (1 : Int32)).toNatClampNeg), .inr (.inr (some (7, v2))), .inl x67]) (M' := mem E mu68 la69) rfl ?_
                            refine Ev.alx rfl h.1 ?_
                            have h := h.2
                            refine Ev.ci (J := mi_172) (as := [.inr (.inr (some (7, v2))), .inl (E.2.1 (v3 + (1 : Int32)).toNatClampNeg), .inl (E.2.1 (v3 + (2 : Int32)).toNatClampNeg)]) (rest := [.inl x67]) rfl rfl rfl (Nat.le_of_ble_eq_true rfl) h (fun x70 mu71 la72 h => ?_)
                            refine Ev.br (c := x67 = x70) (s1 := (890, [some (.inr (.inr (some (100, 0)))), some (.inr (.inr (some (6, v1)))), some (.inr (.inr (some (7, v2)))), some (.inl v3)], [], mem E mu71 la72)) (s2 := (354, [some (.inr (.inr (some (100, 0)))), some (.inr (.inr (some (6, v1)))), some (.inr (.inr (some (7, v2)))), some (.inl v3)], [], mem E mu71 la72)) rfl rfl rfl rfl (fun hc => ?_) (fun hc => ?_)
                            · have h := h.1 hc
                              dsimp only
                              refine Ev.steps 2 (ip' := 10) (ls' := [some (.inr (.inr (some (100, 0)))), some (.inr (.inr (some (6, v1)))), some (.inr (.inr (some (7, v2)))), some (.inl (v3 + (6 : Int32)))]) (st' := []) (M' := mem E mu71 la72) rfl ?_
                              exact h
                            · have h := h.2 hc
                              dsimp only
                              refine Ev.steps 1 (ip' := 355) (ls' := [some (.inr (.inr (some (100, 0)))), some (.inr (.inr (some (6, v1)))), some (.inr (.inr (some (7, v2)))), some (.inl v3)]) (st' := [.inl (0 : Int32)]) (M' := mem E mu71 la72) rfl ?_
                              exact Ev.retZ rfl rfl (Or.inl rfl) ⟨_, _, _, rfl, rfl, h⟩
                          · have h := h.2 hc11
                            by_cases hc12 : ((E.2.1 v3.toNatClampNeg) &&& (63 : Int32)) = 12
                            · refine Ev.one (s' := (356, [some (.inr (.inr (some (100, 0)))), some (.inr (.inr (some (6, v1)))), some (.inr (.inr (some (7, v2)))), some (.inl v3)], [], mem E mu la)) rfl rfl rfl (by rw [hc12]; rfl) ?_
                              have h := h.1 hc12
                              dsimp only
                              refine Ev.steps 5 (ip' := 361) (ls' := [some (.inr (.inr (some (100, 0)))), some (.inr (.inr (some (6, v1)))), some (.inr (.inr (some (7, v2)))), some (.inl v3)]) (st' := [.inl (v3 + (1 : Int32)), .inr (.inr (some (100, 0))), .inr (.inr (some (6, v1)))]) (M' := mem E mu la) rfl ?_
                              refine Ev.alx rfl h.1 ?_
                              have h := h.2
                              refine Ev.ci (J := mi_62) (as := [.inr (.inr (some (6, v1))), .inl (E.2.1 (v3 + (1 : Int32)).toNatClampNeg)]) (rest := []) rfl rfl rfl (Nat.le_of_ble_eq_true rfl) h (fun x73 mu74 la75 h => ?_)
                              refine Ev.steps 5 (ip' := 368) (ls' := [some (.inr (.inr (some (100, 0)))), some (.inr (.inr (some (6, v1)))), some (.inr (.inr (some (7, v2)))), some (.inl v3)]) (st' := [.inl (v3 + (1 : Int32)), .inr (.inr (some (100, 0))), .inr (.inr (some (7, v2))), .inl x73]) (M' := mem E mu74 la75) rfl ?_
                              refine Ev.alx rfl h.1 ?_
                              have h := h.2
                              refine Ev.ci (J := mi_173) (as := [.inr (.inr (some (7, v2))), .inl (E.2.1 (v3 + (1 : Int32)).toNatClampNeg)]) (rest := [.inl x73]) rfl rfl rfl (Nat.le_of_ble_eq_true rfl) h (fun x76 mu77 la78 h => ?_)
                              refine Ev.br (c := x73 = x76) (s1 := (890, [some (.inr (.inr (some (100, 0)))), some (.inr (.inr (some (6, v1)))), some (.inr (.inr (some (7, v2)))), some (.inl v3)], [], mem E mu77 la78)) (s2 := (371, [some (.inr (.inr (some (100, 0)))), some (.inr (.inr (some (6, v1)))), some (.inr (.inr (some (7, v2)))), some (.inl v3)], [], mem E mu77 la78)) rfl rfl rfl rfl (fun hc => ?_) (fun hc => ?_)
                              · have h := h.1 hc
                                dsimp only
                                refine Ev.steps 2 (ip' := 10) (ls' := [some (.inr (.inr (some (100, 0)))), some (.inr (.inr (some (6, v1)))), some (.inr (.inr (some (7, v2)))), some (.inl (v3 + (6 : Int32)))]) (st' := []) (M' := mem E mu77 la78) rfl ?_
                                exact h
                              · have h := h.2 hc
                                dsimp only
                                refine Ev.steps 1 (ip' := 372) (ls' := [some (.inr (.inr (some (100, 0)))), some (.inr (.inr (some (6, v1)))), some (.inr (.inr (some (7, v2)))), some (.inl v3)]) (st' := [.inl (0 : Int32)]) (M' := mem E mu77 la78) rfl ?_
                                exact Ev.retZ rfl rfl (Or.inl rfl) ⟨_, _, _, rfl, rfl, h⟩
                            · have h := h.2 hc12
                              by_cases hc13 : ((E.2.1 v3.toNatClampNeg) &&& (63 : Int32)) = 13
                              · refine Ev.one (s' := (373, [some (.inr (.inr (some (100, 0)))), some (.inr (.inr (some (6, v1)))), some (.inr (.inr (some (7, v2)))), some (.inl v3)], [], mem E mu la)) rfl rfl rfl (by rw [hc13]; rfl) ?_
                                have h := h.1 hc13
                                dsimp only
                                refine Ev.steps 5 (ip' := 378) (ls' := [some (.inr (.inr (some (100, 0)))), some (.inr (.inr (some (6, v1)))), some (.inr (.inr (some (7, v2)))), some (.inl v3)]) (st' := [.inl (v3 + (1 : Int32)), .inr (.inr (some (100, 0))), .inr (.inr (some (6, v1)))]) (M' := mem E mu la) rfl ?_
                                refine Ev.alx rfl h.1 ?_
                                have h := h.2
                                refine Ev.ci (J := mi_63) (as := [.inr (.inr (some (6, v1))), .inl (E.2.1 (v3 + (1 : Int32)).toNatClampNeg)]) (rest := []) rfl rfl rfl (Nat.le_of_ble_eq_true rfl) h (fun x79 mu80 la81 h => ?_)
                                refine Ev.steps 5 (ip' := 385) (ls' := [some (.inr (.inr (some (100, 0)))), some (.inr (.inr (some (6, v1)))), some (.inr (.inr (some (7, v2)))), some (.inl v3)]) (st' := [.inl (v3 + (1 : Int32)), .inr (.inr (some (100, 0))), .inr (.inr (some (7, v2))), .inl x79]) (M' := mem E mu80 la81) rfl ?_
                                refine Ev.alx rfl h.1 ?_
                                have h := h.2
                                refine Ev.ci (J := mi_176) (as := [.inr (.inr (some (7, v2))), .inl (E.2.1 (v3 + (1 : Int32)).toNatClampNeg)]) (rest := [.inl x79]) rfl rfl rfl (Nat.le_of_ble_eq_true rfl) h (fun x82 mu83 la84 h => ?_)
                                refine Ev.br (c := x79 = x82) (s1 := (890, [some (.inr (.inr (some (100, 0)))), some (.inr (.inr (some (6, v1)))), some (.inr (.inr (some (7, v2)))), some (.inl v3)], [], mem E mu83 la84)) (s2 := (388, [some (.inr (.inr (some (100, 0)))), some (.inr (.inr (some (6, v1)))), some (.inr (.inr (some (7, v2)))), some (.inl v3)], [], mem E mu83 la84)) rfl rfl rfl rfl (fun hc => ?_) (fun hc => ?_)
                                · have h := h.1 hc
                                  dsimp only
                                  refine Ev.steps 2 (ip' := 10) (ls' := [some (.inr (.inr (some (100, 0)))), some (.inr (.inr (some (6, v1)))), some (.inr (.inr (some (7, v2)))), some (.inl (v3 + (6 : Int32)))]) (st' := []) (M' := mem E mu83 la84) rfl ?_
                                  exact h
                                · have h := h.2 hc
                                  dsimp only
                                  refine Ev.steps 1 (ip' := 389) (ls' := [some (.inr (.inr (some (100, 0)))), some (.inr (.inr (some (6, v1)))), some (.inr (.inr (some (7, v2)))), some (.inl v3)]) (st' := [.inl (0 : Int32)]) (M' := mem E mu83 la84) rfl ?_
                                  exact Ev.retZ rfl rfl (Or.inl rfl) ⟨_, _, _, rfl, rfl, h⟩
                              · have h := h.2 hc13
                                by_cases hc14 : ((E.2.1 v3.toNatClampNeg) &&& (63 : Int32)) = 14
                                · refine Ev.one (s' := (390, [some (.inr (.inr (some (100, 0)))), some (.inr (.inr (some (6, v1)))), some (.inr (.inr (some (7, v2)))), some (.inl v3)], [], mem E mu la)) rfl rfl rfl (by rw [hc14]; rfl) ?_
                                  have h := h.1 hc14
                                  dsimp only
                                  refine Ev.steps 5 (ip' := 395) (ls' := [some (.inr (.inr (some (100, 0)))), some (.inr (.inr (some (6, v1)))), some (.inr (.inr (some (7, v2)))), some (.inl v3)]) (st' := [.inl (v3 + (1 : Int32)), .inr (.inr (some (100, 0))), .inr (.inr (some (6, v1)))]) (M' := mem E mu la) rfl ?_
                                  refine Ev.alx rfl h.1 ?_
                                  have h := h.2
                                  refine Ev.steps 4 (ip' := 400) (ls' := [some (.inr (.inr (some (100, 0)))), some (.inr (.inr (some (6, v1)))), some (.inr (.inr (some (7, v2)))), some (.inl v3)]) (st' := [.inl (v3 + (2 : Int32)), .inr (.inr (some (100, 0))), .inl (E.2.1 (v3 + (1 : Int32)).toNatClampNeg), .inr (.inr (some (6, v1)))]) (M' := mem E mu la) rfl ?_
                                  refine Ev.alx rfl h.1 ?_
                                  have h := h.2
                                  refine Ev.ci (J := mi_64) (as := [.inr (.inr (some (6, v1))), .inl (E.2.1 (v3 + (1 : Int32)).toNatClampNeg), .inl (E.2.1 (v3 + (2 : Int32)).toNatClampNeg)]) (rest := []) rfl rfl rfl (Nat.le_of_ble_eq_true rfl) h (fun x85 mu86 la87 h => ?_)
                                  refine Ev.steps 5 (ip' := 407) (ls' := [some (.inr (.inr (some (100, 0)))), some (.inr (.inr (some (6, v1)))), some (.inr (.inr (some (7, v2)))), some (.inl v3)]) (st' := [.inl (v3 + (1 : Int32)), .inr (.inr (some (100, 0))), .inr (.inr (some (7, v2))), .inl x85]) (M' := mem E mu86 la87) rfl ?_
                                  refine Ev.alx rfl h.1 ?_
                                  have h := h.2
                                  refine Ev.steps 4 (ip' := 412) (ls' := [some (.inr (.inr (some (100, 0)))), some (.inr (.inr (some (6, v1)))), some (.inr (.inr (some (7, v2)))), some (.inl v3)]) (st' := [.inl (v3 + (2 : Int32)), .inr (.inr (some (100, 0))), .inl (E.2.1 (v3 + (1 : Int32)).toNatClampNeg), .inr (.inr (some (7, v2))), .inl x85]) (M' := mem E mu86 la87) rfl ?_
                                  refine Ev.alx rfl h.1 ?_
                                  have h := h.2
                                  refine Ev.ci (J := mi_178) (as := [.inr (.inr (some (7, v2))), .inl (E.2.1 (v3 + (1 : Int32)).toNatClampNeg), .inl (E.2.1 (v3 + (2 : Int32)).toNatClampNeg)]) (rest := [.inl x85]) rfl rfl rfl (Nat.le_of_ble_eq_true rfl) h (fun x88 mu89 la90 h => ?_)
                                  refine Ev.br (c := x85 = x88) (s1 := (890, [some (.inr (.inr (some (100, 0)))), some (.inr (.inr (some (6, v1)))), some (.inr (.inr (some (7, v2)))), some (.inl v3)], [], mem E mu89 la90)) (s2 := (415, [some (.inr (.inr (some (100, 0)))), some (.inr (.inr (some (6, v1)))), some (.inr (.inr (some (7, v2)))), some (.inl v3)], [], mem E mu89 la90)) rfl rfl rfl rfl (fun hc => ?_) (fun hc => ?_)
                                  · have h := h.1 hc
                                    dsimp only
                                    refine Ev.steps 2 (ip' := 10) (ls' := [some (.inr (.inr (some (100, 0)))), some (.inr (.inr (some (6, v1)))), some (.inr (.inr (some (7, v2)))), some (.inl (v3 + (6 : Int32)))]) (st' := []) (M' := mem E mu89 la90) rfl ?_
                                    exact h
                                  · have h := h.2 hc
                                    dsimp only
                                    refine Ev.steps 1 (ip' := 416) (ls' := [some (.inr (.inr (some (100, 0)))), some (.inr (.inr (some (6, v1)))), some (.inr (.inr (some (7, v2)))), some (.inl v3)]) (st' := [.inl (0 : Int32)]) (M' := mem E mu89 la90) rfl ?_
                                    exact Ev.retZ rfl rfl (Or.inl rfl) ⟨_, _, _, rfl, rfl, h⟩
                                · have h := h.2 hc14
                                  by_cases hc15 : ((E.2.1 v3.toNatClampNeg) &&& (63 : Int32)) = 15
                                  · refine Ev.one (s' := (417, [some (.inr (.inr (some (100, 0)))), some (.inr (.inr (some (6, v1)))), some (.inr (.inr (some (7, v2)))), some (.inl v3)], [], mem E mu la)) rfl rfl rfl (by rw [hc15]; rfl) ?_
                                    have h := h.1 hc15
                                    dsimp only
                                    refine Ev.steps 5 (ip' := 422) (ls' := [some (.inr (.inr (some (100, 0)))), some (.inr (.inr (some (6, v1)))), some (.inr (.inr (some (7, v2)))), some (.inl v3)]) (st' := [.inl (v3 + (1 : Int32)), .inr (.inr (some (100, 0))), .inr (.inr (some (6, v1)))]) (M' := mem E mu la) rfl ?_
                                    refine Ev.alx rfl h.1 ?_
                                    have h := h.2
                                    refine Ev.ci (J := mi_65) (as := [.inr (.inr (some (6, v1))), .inl (E.2.1 (v3 + (1 : Int32)).toNatClampNeg)]) (rest := []) rfl rfl rfl (Nat.le_of_ble_eq_true rfl) h (fun x91 mu92 la93 h => ?_)
                                    refine Ev.steps 5 (ip' := 429) (ls' := [some (.inr (.inr (some (100, 0)))), some (.inr (.inr (some (6, v1)))), some (.inr (.inr (some (7, v2)))), some (.inl v3)]) (st' := [.inl (v3 + (1 : Int32)), .inr (.inr (some (100, 0))), .inr (.inr (some (7, v2))), .inl x91]) (M' := mem E mu92 la93) rfl ?_
                                    refine Ev.alx rfl h.1 ?_
                                    have h := h.2
                                    refine Ev.ci (J := mi_179) (as := [.inr (.inr (some (7, v2))), .inl (E.2.1 (v3 + (1 : Int32)).toNatClampNeg)]) (rest := [.inl x91]) rfl rfl rfl (Nat.le_of_ble_eq_true rfl) h (fun x94 mu95 la96 h => ?_)
                                    refine Ev.br (c := x91 = x94) (s1 := (890, [some (.inr (.inr (some (100, 0)))), some (.inr (.inr (some (6, v1)))), some (.inr (.inr (some (7, v2)))), some (.inl v3)], [], mem E mu95 la96)) (s2 := (432, [some (.inr (.inr (some (100, 0)))), some (.inr (.inr (some (6, v1)))), some (.inr (.inr (some (7, v2)))), some (.inl v3)], [], mem E mu95 la96)) rfl rfl rfl rfl (fun hc => ?_) (fun hc => ?_)
                                    · have h := h.1 hc
                                      dsimp only
                                      refine Ev.steps 2 (ip' := 10) (ls' := [some (.inr (.inr (some (100, 0)))), some (.inr (.inr (some (6, v1)))), some (.inr (.inr (some (7, v2)))), some (.inl (v3 + (6 : Int32)))]) (st' := []) (M' := mem E mu95 la96) rfl ?_
                                      exact h
                                    · have h := h.2 hc
                                      dsimp only
                                      refine Ev.steps 1 (ip' := 433) (ls' := [some (.inr (.inr (some (100, 0)))), some (.inr (.inr (some (6, v1)))), some (.inr (.inr (some (7, v2)))), some (.inl v3)]) (st' := [.inl (0 : Int32)]) (M' := mem E mu95 la96) rfl ?_
                                      exact Ev.retZ rfl rfl (Or.inl rfl) ⟨_, _, _, rfl, rfl, h⟩
                                  · have h := h.2 hc15
                                    by_cases hc16 : ((E.2.1 v3.toNatClampNeg) &&& (63 : Int32)) = 16
                                    · refine Ev.one (s' := (434, [some (.inr (.inr (some (100, 0)))), some (.inr (.inr (some (6, v1)))), some (.inr (.inr (some (7, v2)))), some (.inl v3)], [], mem E mu la)) rfl rfl rfl (by rw [hc16]; rfl) ?_
                                      have h := h.1 hc16
                                      dsimp only
                                      refine Ev.steps 5 (ip' := 439) (ls' := [some (.inr (.inr (some (100, 0)))), some (.inr (.inr (some (6, v1)))), some (.inr (.inr (some (7, v2)))), some (.inl v3)]) (st' := [.inl (v3 + (1 : Int32)), .inr (.inr (some (100, 0))), .inr (.inr (some (6, v1)))]) (M' := mem E mu la) rfl ?_
                                      refine Ev.alx rfl h.1 ?_
                                      have h := h.2
                                      refine Ev.ci (J := mi_66) (as := [.inr (.inr (some (6, v1))), .inl (E.2.1 (v3 + (1 : Int32)).toNatClampNeg)]) (rest := []) rfl rfl rfl (Nat.le_of_ble_eq_true rfl) h (fun x97 mu98 la99 h => ?_)
                                      refine Ev.steps 5 (ip' := 446) (ls' := [some (.inr (.inr (some (100, 0)))), some (.inr (.inr (some (6, v1)))), some (.inr (.inr (some (7, v2)))), some (.inl v3)]) (st' := [.inl (v3 + (1 : Int32)), .inr (.inr (some (100, 0))), .inr (.inr (some (7, v2))), .inl x97]) (M' := mem E mu98 la99) rfl ?_
                                      refine Ev.alx rfl h.1 ?_
                                      have h := h.2
                                      refine Ev.ci (J := mi_180) (as := [.inr (.inr (some (7, v2))), .inl (E.2.1 (v3 + (1 : Int32)).toNatClampNeg)]) (rest := [.inl x97]) rfl rfl rfl (Nat.le_of_ble_eq_true rfl) h (fun x100 mu101 la102 h => ?_)
                                      refine Ev.br (c := x97 = x100) (s1 := (890, [some (.inr (.inr (some (100, 0)))), some (.inr (.inr (some (6, v1)))), some (.inr (.inr (some (7, v2)))), some (.inl v3)], [], mem E mu101 la102)) (s2 := (449, [some (.inr (.inr (some (100, 0)))), some (.inr (.inr (some (6, v1)))), some (.inr (.inr (some (7, v2)))), some (.inl v3)], [], mem E mu101 la102)) rfl rfl rfl rfl (fun hc => ?_) (fun hc => ?_)
                                      · have h := h.1 hc
                                        dsimp only
                                        refine Ev.steps 2 (ip' := 10) (ls' := [some (.inr (.inr (some (100, 0)))), some (.inr (.inr (some (6, v1)))), some (.inr (.inr (some (7, v2)))), some (.inl (v3 + (6 : Int32)))]) (st' := []) (M' := mem E mu101 la102) rfl ?_
                                        exact h
                                      · have h := h.2 hc
                                        dsimp only
                                        refine Ev.steps 1 (ip' := 450) (ls' := [some (.inr (.inr (some (100, 0)))), some (.inr (.inr (some (6, v1)))), some (.inr (.inr (some (7, v2)))), some (.inl v3)]) (st' := [.inl (0 : Int32)]) (M' := mem E mu101 la102) rfl ?_
                                        exact Ev.retZ rfl rfl (Or.inl rfl) ⟨_, _, _, rfl, rfl, h⟩
                                    · have h := h.2 hc16
                                      by_cases hc17 : ((E.2.1 v3.toNatClampNeg) &&& (63 : Int32)) = 17
                                      · refine Ev.one (s' := (451, [some (.inr (.inr (some (100, 0)))), some (.inr (.inr (some (6, v1)))), some (.inr (.inr (some (7, v2)))), some (.inl v3)], [], mem E mu la)) rfl rfl rfl (by rw [hc17]; rfl) ?_
                                        have h := h.1 hc17
                                        dsimp only
                                        refine Ev.steps 5 (ip' := 456) (ls' := [some (.inr (.inr (some (100, 0)))), some (.inr (.inr (some (6, v1)))), some (.inr (.inr (some (7, v2)))), some (.inl v3)]) (st' := [.inl (v3 + (1 : Int32)), .inr (.inr (some (100, 0))), .inr (.inr (some (6, v1)))]) (M' := mem E mu la) rfl ?_
                                        refine Ev.alx rfl h.1 ?_
                                        have h := h.2
                                        refine Ev.ci (J := mi_67) (as := [.inr (.inr (some (6, v1))), .inl (E.2.1 (v3 + (1 : Int32)).toNatClampNeg)]) (rest := []) rfl rfl rfl (Nat.le_of_ble_eq_true rfl) h (fun x103 mu104 la105 h => ?_)
                                        refine Ev.steps 5 (ip' := 463) (ls' := [some (.inr (.inr (some (100, 0)))), some (.inr (.inr (some (6, v1)))), some (.inr (.inr (some (7, v2)))), some (.inl v3)]) (st' := [.inl (v3 + (1 : Int32)), .inr (.inr (some (100, 0))), .inr (.inr (some (7, v2))), .inl x103]) (M' := mem E mu104 la105) rfl ?_
                                        refine Ev.alx rfl h.1 ?_
                                        have h := h.2
                                        refine Ev.ci (J := mi_181) (as := [.inr (.inr (some (7, v2))), .inl (E.2.1 (v3 + (1 : Int32)).toNatClampNeg)]) (rest := [.inl x103]) rfl rfl rfl (Nat.le_of_ble_eq_true rfl) h (fun x106 mu107 la108 h => ?_)
                                        refine Ev.br (c := x103 = x106) (s1 := (890, [some (.inr (.inr (some (100, 0)))), some (.inr (.inr (some (6, v1)))), some (.inr (.inr (some (7, v2)))), some (.inl v3)], [], mem E mu107 la108)) (s2 := (466, [some (.inr (.inr (some (100, 0)))), some (.inr (.inr (some (6, v1)))), some (.inr (.inr (some (7, v2)))), some (.inl v3)], [], mem E mu107 la108)) rfl rfl rfl rfl (fun hc => ?_) (fun hc => ?_)
                                        · have h := h.1 hc
                                          dsimp only
                                          refine Ev.steps 2 (ip' := 10) (ls' := [some (.inr (.inr (some (100, 0)))), some (.inr (.inr (some (6, v1)))), some (.inr (.inr (some (7, v2)))), some (.inl (v3 + (6 : Int32)))]) (st' := []) (M' := mem E mu107 la108) rfl ?_
                                          exact h
                                        · have h := h.2 hc
                                          dsimp only
                                          refine Ev.steps 1 (ip' := 467) (ls' := [some (.inr (.inr (some (100, 0)))), some (.inr (.inr (some (6, v1)))), some (.inr (.inr (some (7, v2)))), some (.inl v3)]) (st' := [.inl (0 : Int32)]) (M' := mem E mu107 la108) rfl ?_
                                          exact Ev.retZ rfl rfl (Or.inl rfl) ⟨_, _, _, rfl, rfl, h⟩
                                      · have h := h.2 hc17
                                        by_cases hc18 : ((E.2.1 v3.toNatClampNeg) &&& (63 : Int32)) = 18
                                        · refine Ev.one (s' := (468, [some (.inr (.inr (some (100, 0)))), some (.inr (.inr (some (6, v1)))), some (.inr (.inr (some (7, v2)))), some (.inl v3)], [], mem E mu la)) rfl rfl rfl (by rw [hc18]; rfl) ?_
                                          have h := h.1 hc18
                                          dsimp only
                                          refine Ev.steps 5 (ip' := 473) (ls' := [some (.inr (.inr (some (100, 0)))), some (.inr (.inr (some (6, v1)))), some (.inr (.inr (some (7, v2)))), some (.inl v3)]) (st' := [.inl (v3 + (1 : Int32)), .inr (.inr (some (100, 0))), .inr (.inr (some (6, v1)))]) (M' := mem E mu la) rfl ?_
                                          refine Ev.alx rfl h.1 ?_
                                          have h := h.2
                                          refine Ev.ci (J := mi_68) (as := [.inr (.inr (some (6, v1))), .inl (E.2.1 (v3 + (1 : Int32)).toNatClampNeg)]) (rest := []) rfl rfl rfl (Nat.le_of_ble_eq_true rfl) h (fun x109 mu110 la111 h => ?_)
                                          refine Ev.steps 5 (ip' := 480) (ls' := [some (.inr (.inr (some (100, 0)))), some (.inr (.inr (some (6, v1)))), some (.inr (.inr (some (7, v2)))), some (.inl v3)]) (st' := [.inl (v3 + (1 : Int32)), .inr (.inr (some (100, 0))), .inr (.inr (some (7, v2))), .inl x109]) (M' := mem E mu110 la111) rfl ?_
                                          refine Ev.alx rfl h.1 ?_
                                          have h := h.2
                                          refine Ev.ci (J := mi_182) (as := [.inr (.inr (some (7, v2))), .inl (E.2.1 (v3 + (1 : Int32)).toNatClampNeg)]) (rest := [.inl x109]) rfl rfl rfl (Nat.le_of_ble_eq_true rfl) h (fun x112 mu113 la114 h => ?_)
                                          refine Ev.br (c := x109 = x112) (s1 := (890, [some (.inr (.inr (some (100, 0)))), some (.inr (.inr (some (6, v1)))), some (.inr (.inr (some (7, v2)))), some (.inl v3)], [], mem E mu113 la114)) (s2 := (483, [some (.inr (.inr (some (100, 0)))), some (.inr (.inr (some (6, v1)))), some (.inr (.inr (some (7, v2)))), some (.inl v3)], [], mem E mu113 la114)) rfl rfl rfl rfl (fun hc => ?_) (fun hc => ?_)
                                          · have h := h.1 hc
                                            dsimp only
                                            refine Ev.steps 2 (ip' := 10) (ls' := [some (.inr (.inr (some (100, 0)))), some (.inr (.inr (some (6, v1)))), some (.inr (.inr (some (7, v2)))), some (.inl (v3 + (6 : Int32)))]) (st' := []) (M' := mem E mu113 la114) rfl ?_
                                            exact h
                                          · have h := h.2 hc
                                            dsimp only
                                            refine Ev.steps 1 (ip' := 484) (ls' := [some (.inr (.inr (some (100, 0)))), some (.inr (.inr (some (6, v1)))), some (.inr (.inr (some (7, v2)))), some (.inl v3)]) (st' := [.inl (0 : Int32)]) (M' := mem E mu113 la114) rfl ?_
                                            exact Ev.retZ rfl rfl (Or.inl rfl) ⟨_, _, _, rfl, rfl, h⟩
                                        · have h := h.2 hc18
                                          by_cases hc19 : ((E.2.1 v3.toNatClampNeg) &&& (63 : Int32)) = 19
                                          · refine Ev.one (s' := (485, [some (.inr (.inr (some (100, 0)))), some (.inr (.inr (some (6, v1)))), some (.inr (.inr (some (7, v2)))), some (.inl v3)], [], mem E mu la)) rfl rfl rfl (by rw [hc19]; rfl) ?_
                                            have h := h.1 hc19
                                            dsimp only
                                            refine Ev.steps 5 (ip' := 490) (ls' := [some (.inr (.inr (some (100, 0)))), some (.inr (.inr (some (6, v1)))), some (.inr (.inr (some (7, v2)))), some (.inl v3)]) (st' := [.inl (v3 + (1 : Int32)), .inr (.inr (some (100, 0))), .inr (.inr (some (6, v1)))]) (M' := mem E mu la) rfl ?_
                                            refine Ev.alx rfl h.1 ?_
                                            have h := h.2
                                            refine Ev.ci (J := mi_69) (as := [.inr (.inr (some (6, v1))), .inl (E.2.1 (v3 + (1 : Int32)).toNatClampNeg)]) (rest := []) rfl rfl rfl (Nat.le_of_ble_eq_true rfl) h (fun x115 mu116 la117 h => ?_)
                                            refine Ev.steps 5 (ip' := 497) (ls' := [some (.inr (.inr (some (100, 0)))), some (.inr (.inr (some (6, v1)))), some (.inr (.inr (some (7, v2)))), some (.inl v3)]) (st' := [.inl (v3 + (1 : Int32)), .inr (.inr (some (100, 0))), .inr (.inr (some (7, v2))), .inl x115]) (M' := mem E mu116 la117) rfl ?_
                                            refine Ev.alx rfl h.1 ?_
                                            have h := h.2
                                            refine Ev.ci (J := mi_189) (as := [.inr (.inr (some (7, v2))), .inl (E.2.1 (v3 + (1 : Int32)).toNatClampNeg)]) (rest := [.inl x115]) rfl rfl rfl (Nat.le_of_ble_eq_true rfl) h (fun x118 mu119 la120 h => ?_)
                                            refine Ev.br (c := x115 = x118) (s1 := (890, [some (.inr (.inr (some (100, 0)))), some (.inr (.inr (some (6, v1)))), some (.inr (.inr (some (7, v2)))), some (.inl v3)], [], mem E mu119 la120)) (s2 := (500, [some (.inr (.inr (some (100, 0)))), some (.inr (.inr (some (6, v1)))), some (.inr (.inr (some (7, v2)))), some (.inl v3)], [], mem E mu119 la120)) rfl rfl rfl rfl (fun hc => ?_) (fun hc => ?_)
                                            · have h := h.1 hc
                                              dsimp only
                                              refine Ev.steps 2 (ip' := 10) (ls' := [some (.inr (.inr (some (100, 0)))), some (.inr (.inr (some (6, v1)))), some (.inr (.inr (some (7, v2)))), some (.inl (v3 + (6 : Int32)))]) (st' := []) (M' := mem E mu119 la120) rfl ?_
                                              exact h
                                            · have h := h.2 hc
                                              dsimp only
                                              refine Ev.steps 1 (ip' := 501) (ls' := [some (.inr (.inr (some (100, 0)))), some (.inr (.inr (some (6, v1)))), some (.inr (.inr (some (7, v2)))), some (.inl v3)]) (st' := [.inl (0 : Int32)]) (M' := mem E mu119 la120) rfl ?_
                                              exact Ev.retZ rfl rfl (Or.inl rfl) ⟨_, _, _, rfl, rfl, h⟩
                                          · have h := h.2 hc19
                                            by_cases hc20 : ((E.2.1 v3.toNatClampNeg) &&& (63 : Int32)) = 20
                                            · refine Ev.one (s' := (502, [some (.inr (.inr (some (100, 0)))), some (.inr (.inr (some (6, v1)))), some (.inr (.inr (some (7, v2)))), some (.inl v3)], [], mem E mu la)) rfl rfl rfl (by rw [hc20]; rfl) ?_
                                              have h := h.1 hc20
                                              dsimp only
                                              refine Ev.steps 5 (ip' := 507) (ls' := [some (.inr (.inr (some (100, 0)))), some (.inr (.inr (some (6, v1)))), some (.inr (.inr (some (7, v2)))), some (.inl v3)]) (st' := [.inl (v3 + (1 : Int32)), .inr (.inr (some (100, 0))), .inr (.inr (some (6, v1)))]) (M' := mem E mu la) rfl ?_
                                              refine Ev.alx rfl h.1 ?_
                                              have h := h.2
                                              refine Ev.ci (J := mi_70) (as := [.inr (.inr (some (6, v1))), .inl (E.2.1 (v3 + (1 : Int32)).toNatClampNeg)]) (rest := []) rfl rfl rfl (Nat.le_of_ble_eq_true rfl) h (fun x121 mu122 la123 h => ?_)
                                              refine Ev.steps 5 (ip' := 514) (ls' := [some (.inr (.inr (some (100, 0)))), some (.inr (.inr (some (6, v1)))), some (.inr (.inr (some (7, v2)))), some (.inl v3)]) (st' := [.inl (v3 + (1 : Int32)), .inr (.inr (some (100, 0))), .inr (.inr (some (7, v2))), .inl x121]) (M' := mem E mu122 la123) rfl ?_
                                              refine Ev.alx rfl h.1 ?_
                                              have h := h.2
                                              refine Ev.ci (J := mi_190) (as := [.inr (.inr (some (7, v2))), .inl (E.2.1 (v3 + (1 : Int32)).toNatClampNeg)]) (rest := [.inl x121]) rfl rfl rfl (Nat.le_of_ble_eq_true rfl) h (fun x124 mu125 la126 h => ?_)
                                              refine Ev.br (c := x121 = x124) (s1 := (890, [some (.inr (.inr (some (100, 0)))), some (.inr (.inr (some (6, v1)))), some (.inr (.inr (some (7, v2)))), some (.inl v3)], [], mem E mu125 la126)) (s2 := (517, [some (.inr (.inr (some (100, 0)))), some (.inr (.inr (some (6, v1)))), some (.inr (.inr (some (7, v2)))), some (.inl v3)], [], mem E mu125 la126)) rfl rfl rfl rfl (fun hc => ?_) (fun hc => ?_)
                                              · have h := h.1 hc
                                                dsimp only
                                                refine Ev.steps 2 (ip' := 10) (ls' := [some (.inr (.inr (some (100, 0)))), some (.inr (.inr (some (6, v1)))), some (.inr (.inr (some (7, v2)))), some (.inl (v3 + (6 : Int32)))]) (st' := []) (M' := mem E mu125 la126) rfl ?_
                                                exact h
                                              · have h := h.2 hc
                                                dsimp only
                                                refine Ev.steps 1 (ip' := 518) (ls' := [some (.inr (.inr (some (100, 0)))), some (.inr (.inr (some (6, v1)))), some (.inr (.inr (some (7, v2)))), some (.inl v3)]) (st' := [.inl (0 : Int32)]) (M' := mem E mu125 la126) rfl ?_
                                                exact Ev.retZ rfl rfl (Or.inl rfl) ⟨_, _, _, rfl, rfl, h⟩
                                            · have h := h.2 hc20
                                              by_cases hc21 : ((E.2.1 v3.toNatClampNeg) &&& (63 : Int32)) = 21
                                              · refine Ev.one (s' := (519, [some (.inr (.inr (some (100, 0)))), some (.inr (.inr (some (6, v1)))), some (.inr (.inr (some (7, v2)))), some (.inl v3)], [], mem E mu la)) rfl rfl rfl (by rw [hc21]; rfl) ?_
                                                have h := h.1 hc21
                                                dsimp only
                                                refine Ev.steps 5 (ip' := 524) (ls' := [some (.inr (.inr (some (100, 0)))), some (.inr (.inr (some (6, v1)))), some (.inr (.inr (some (7, v2)))), some (.inl v3)]) (st' := [.inl (v3 + (1 : Int32)), .inr (.inr (some (100, 0))), .inr (.inr (some (6, v1)))]) (M' := mem E mu la) rfl ?_
                                                refine Ev.alx rfl h.1 ?_
                                                have h := h.2
                                                refine Ev.ci (J := mi_71) (as := [.inr (.inr (some (6, v1))), .inl (E.2.1 (v3 + (1 : Int32)).toNatClampNeg)]) (rest := []) rfl rfl rfl (Nat.le_of_ble_eq_true rfl) h (fun x127 mu128 la129 h => ?_)
                                                refine Ev.steps 5 (ip' := 531) (ls' := [some (.inr (.inr (some (100, 0)))), some (.inr (.inr (some (6, v1)))), some (.inr (.inr (some (7, v2)))), some (.inl v3)]) (st' := [.inl (v3 + (1 : Int32)), .inr (.inr (some (100, 0))), .inr (.inr (some (7, v2))), .inl x127]) (M' := mem E mu128 la129) rfl ?_
                                                refine Ev.alx rfl h.1 ?_
                                                have h := h.2
                                                refine Ev.ci (J := mi_191) (as := [.inr (.inr (some (7, v2))), .inl (E.2.1 (v3 + (1 : Int32)).toNatClampNeg)]) (rest := [.inl x127]) rfl rfl rfl (Nat.le_of_ble_eq_true rfl) h (fun x130 mu131 la132 h => ?_)
                                                refine Ev.br (c := x127 = x130) (s1 := (890, [some (.inr (.inr (some (100, 0)))), some (.inr (.inr (some (6, v1)))), some (.inr (.inr (some (7, v2)))), some (.inl v3)], [], mem E mu131 la132)) (s2 := (534, [some (.inr (.inr (some (100, 0)))), some (.inr (.inr (some (6, v1)))), some (.inr (.inr (some (7, v2)))), some (.inl v3)], [], mem E mu131 la132)) rfl rfl rfl rfl (fun hc => ?_) (fun hc => ?_)
                                                · have h := h.1 hc
                                                  dsimp only
                                                  refine Ev.steps 2 (ip' := 10) (ls' := [some (.inr (.inr (some (100, 0)))), some (.inr (.inr (some (6, v1)))), some (.inr (.inr (some (7, v2)))), some (.inl (v3 + (6 : Int32)))]) (st' := []) (M' := mem E mu131 la132) rfl ?_
                                                  exact h
                                                · have h := h.2 hc
                                                  dsimp only
                                                  refine Ev.steps 1 (ip' := 535) (ls' := [some (.inr (.inr (some (100, 0)))), some (.inr (.inr (some (6, v1)))), some (.inr (.inr (some (7, v2)))), some (.inl v3)]) (st' := [.inl (0 : Int32)]) (M' := mem E mu131 la132) rfl ?_
                                                  exact Ev.retZ rfl rfl (Or.inl rfl) ⟨_, _, _, rfl, rfl, h⟩
                                              · have h := h.2 hc21
                                                by_cases hc22 : ((E.2.1 v3.toNatClampNeg) &&& (63 : Int32)) = 22
                                                · refine Ev.one (s' := (536, [some (.inr (.inr (some (100, 0)))), some (.inr (.inr (some (6, v1)))), some (.inr (.inr (some (7, v2)))), some (.inl v3)], [], mem E mu la)) rfl rfl rfl (by rw [hc22]; rfl) ?_
                                                  have h := h.1 hc22
                                                  dsimp only
                                                  refine Ev.steps 5 (ip' := 541) (ls' := [some (.inr (.inr (some (100, 0)))), some (.inr (.inr (some (6, v1)))), some (.inr (.inr (some (7, v2)))), some (.inl v3)]) (st' := [.inl (v3 + (1 : Int32)), .inr (.inr (some (100, 0))), .inr (.inr (some (6, v1)))]) (M' := mem E mu la) rfl ?_
                                                  refine Ev.alx rfl h.1 ?_
                                                  have h := h.2
                                                  refine Ev.ci (J := mi_72) (as := [.inr (.inr (some (6, v1))), .inl (E.2.1 (v3 + (1 : Int32)).toNatClampNeg)]) (rest := []) rfl rfl rfl (Nat.le_of_ble_eq_true rfl) h (fun x133 mu134 la135 h => ?_)
                                                  refine Ev.steps 5 (ip' := 548) (ls' := [some (.inr (.inr (some (100, 0)))), some (.inr (.inr (some (6, v1)))), some (.inr (.inr (some (7, v2)))), some (.inl v3)]) (st' := [.inl (v3 + (1 : Int32)), .inr (.inr (some (100, 0))), .inr (.inr (some (7, v2))), .inl x133]) (M' := mem E mu134 la135) rfl ?_
                                                  refine Ev.alx rfl h.1 ?_
                                                  have h := h.2
                                                  refine Ev.ci (J := mi_193) (as := [.inr (.inr (some (7, v2))), .inl (E.2.1 (v3 + (1 : Int32)).toNatClampNeg)]) (rest := [.inl x133]) rfl rfl rfl (Nat.le_of_ble_eq_true rfl) h (fun x136 mu137 la138 h => ?_)
                                                  refine Ev.br (c := x133 = x136) (s1 := (890, [some (.inr (.inr (some (100, 0)))), some (.inr (.inr (some (6, v1)))), some (.inr (.inr (some (7, v2)))), some (.inl v3)], [], mem E mu137 la138)) (s2 := (551, [some (.inr (.inr (some (100, 0)))), some (.inr (.inr (some (6, v1)))), some (.inr (.inr (some (7, v2)))), some (.inl v3)], [], mem E mu137 la138)) rfl rfl rfl rfl (fun hc => ?_) (fun hc => ?_)
                                                  · have h := h.1 hc
                                                    dsimp only
                                                    refine Ev.steps 2 (ip' := 10) (ls' := [some (.inr (.inr (some (100, 0)))), some (.inr (.inr (some (6, v1)))), some (.inr (.inr (some (7, v2)))), some (.inl (v3 + (6 : Int32)))]) (st' := []) (M' := mem E mu137 la138) rfl ?_
                                                    exact h
                                                  · have h := h.2 hc
                                                    dsimp only
                                                    refine Ev.steps 1 (ip' := 552) (ls' := [some (.inr (.inr (some (100, 0)))), some (.inr (.inr (some (6, v1)))), some (.inr (.inr (some (7, v2)))), some (.inl v3)]) (st' := [.inl (0 : Int32)]) (M' := mem E mu137 la138) rfl ?_
                                                    exact Ev.retZ rfl rfl (Or.inl rfl) ⟨_, _, _, rfl, rfl, h⟩
                                                · have h := h.2 hc22
                                                  by_cases hc23 : ((E.2.1 v3.toNatClampNeg) &&& (63 : Int32)) = 23
                                                  · refine Ev.one (s' := (553, [some (.inr (.inr (some (100, 0)))), some (.inr (.inr (some (6, v1)))), some (.inr (.inr (some (7, v2)))), some (.inl v3)], [], mem E mu la)) rfl rfl rfl (by rw [hc23]; rfl) ?_
                                                    have h := h.1 hc23
                                                    dsimp only
                                                    refine Ev.steps 5 (ip' := 558) (ls' := [some (.inr (.inr (some (100, 0)))), some (.inr (.inr (some (6, v1)))), some (.inr (.inr (some (7, v2)))), some (.inl v3)]) (st' := [.inl (v3 + (1 : Int32)), .inr (.inr (some (100, 0))), .inr (.inr (some (6, v1)))]) (M' := mem E mu la) rfl ?_
                                                    refine Ev.alx rfl h.1 ?_
                                                    have h := h.2
                                                    refine Ev.ci (J := mi_73) (as := [.inr (.inr (some (6, v1))), .inl (E.2.1 (v3 + (1 : Int32)).toNatClampNeg)]) (rest := []) rfl rfl rfl (Nat.le_of_ble_eq_true rfl) h (fun x139 mu140 la141 h => ?_)
                                                    refine Ev.steps 5 (ip' := 565) (ls' := [some (.inr (.inr (some (100, 0)))), some (.inr (.inr (some (6, v1)))), some (.inr (.inr (some (7, v2)))), some (.inl v3)]) (st' := [.inl (v3 + (1 : Int32)), .inr (.inr (some (100, 0))), .inr (.inr (some (7, v2))), .inl x139]) (M' := mem E mu140 la141) rfl ?_
                                                    refine Ev.alx rfl h.1 ?_
                                                    have h := h.2
                                                    refine Ev.ci (J := mi_194) (as := [.inr (.inr (some (7, v2))), .inl (E.2.1 (v3 + (1 : Int32)).toNatClampNeg)]) (rest := [.inl x139]) rfl rfl rfl (Nat.le_of_ble_eq_true rfl) h (fun x142 mu143 la144 h => ?_)
                                                    refine Ev.br (c := x139 = x142) (s1 := (890, [some (.inr (.inr (some (100, 0)))), some (.inr (.inr (some (6, v1)))), some (.inr (.inr (some (7, v2)))), some (.inl v3)], [], mem E mu143 la144)) (s2 := (568, [some (.inr (.inr (some (100, 0)))), some (.inr (.inr (some (6, v1)))), some (.inr (.inr (some (7, v2)))), some (.inl v3)], [], mem E mu143 la144)) rfl rfl rfl rfl (fun hc => ?_) (fun hc => ?_)
                                                    · have h := h.1 hc
                                                      dsimp only
                                                      refine Ev.steps 2 (ip' := 10) (ls' := [some (.inr (.inr (some (100, 0)))), some (.inr (.inr (some (6, v1)))), some (.inr (.inr (some (7, v2)))), some (.inl (v3 + (6 : Int32)))]) (st' := []) (M' := mem E mu143 la144) rfl ?_
                                                      exact h
                                                    · have h := h.2 hc
                                                      dsimp only
                                                      refine Ev.steps 1 (ip' := 569) (ls' := [some (.inr (.inr (some (100, 0)))), some (.inr (.inr (some (6, v1)))), some (.inr (.inr (some (7, v2)))), some (.inl v3)]) (st' := [.inl (0 : Int32)]) (M' := mem E mu143 la144) rfl ?_
                                                      exact Ev.retZ rfl rfl (Or.inl rfl) ⟨_, _, _, rfl, rfl, h⟩
                                                  · have h := h.2 hc23
                                                    by_cases hc24 : ((E.2.1 v3.toNatClampNeg) &&& (63 : Int32)) = 24
                                                    · refine Ev.one (s' := (570, [some (.inr (.inr (some (100, 0)))), some (.inr (.inr (some (6, v1)))), some (.inr (.inr (some (7, v2)))), some (.inl v3)], [], mem E mu la)) rfl rfl rfl (by rw [hc24]; rfl) ?_
                                                      have h := h.1 hc24
                                                      dsimp only
                                                      refine Ev.steps 5 (ip' := 575) (ls' := [some (.inr (.inr (some (100, 0)))), some (.inr (.inr (some (6, v1)))), some (.inr (.inr (some (7, v2)))), some (.inl v3)]) (st' := [.inl (v3 + (1 : Int32)), .inr (.inr (some (100, 0))), .inr (.inr (some (6, v1)))]) (M' := mem E mu la) rfl ?_
                                                      refine Ev.alx rfl h.1 ?_
                                                      have h := h.2
                                                      refine Ev.steps 4 (ip' := 580) (ls' := [some (.inr (.inr (some (100, 0)))), some (.inr (.inr (some (6, v1)))), some (.inr (.inr (some (7, v2)))), some (.inl v3)]) (st' := [.inl (v3 + (2 : Int32)), .inr (.inr (some (100, 0))), .inl (E.2.1 (v3 + (1 : Int32)).toNatClampNeg), .inr (.inr (some (6, v1)))]) (M' := mem E mu la) rfl ?_
                                                      refine Ev.alx rfl h.1 ?_
                                                      have h := h.2
                                                      refine Ev.ci (J := mi_74) (as := [.inr (.inr (some (6, v1))), .inl (E.2.1 (v3 + (1 : Int32)).toNatClampNeg), .inl (E.2.1 (v3 + (2 : Int32)).toNatClampNeg)]) (rest := []) rfl rfl rfl (Nat.le_of_ble_eq_true rfl) h (fun x145 mu146 la147 h => ?_)
                                                      refine Ev.steps 5 (ip' := 587) (ls' := [some (.inr (.inr (some (100, 0)))), some (.inr (.inr (some (6, v1)))), some (.inr (.inr (some (7, v2)))), some (.inl v3)]) (st' := [.inl (v3 + (1 : Int32)), .inr (.inr (some (100, 0))), .inr (.inr (some (7, v2))), .inl x145]) (M' := mem E mu146 la147) rfl ?_
                                                      refine Ev.alx rfl h.1 ?_
                                                      have h := h.2
                                                      refine Ev.steps 4 (ip' := 592) (ls' := [some (.inr (.inr (some (100, 0)))), some (.inr (.inr (some (6, v1)))), some (.inr (.inr (some (7, v2)))), some (.inl v3)]) (st' := [.inl (v3 + (2 : Int32)), .inr (.inr (some (100, 0))), .inl (E.2.1 (v3 + (1 : Int32)).toNatClampNeg), .inr (.inr (some (7, v2))), .inl x145]) (M' := mem E mu146 la147) rfl ?_
                                                      refine Ev.alx rfl h.1 ?_
                                                      have h := h.2
                                                      refine Ev.ci (J := mi_195) (as := [.inr (.inr (some (7, v2))), .inl (E.2.1 (v3 + (1 : Int32)).toNatClampNeg), .inl (E.2.1 (v3 + (2 : Int32)).toNatClampNeg)]) (rest := [.inl x145]) rfl rfl rfl (Nat.le_of_ble_eq_true rfl) h (fun x148 mu149 la150 h => ?_)
                                                      refine Ev.br (c := x145 = x148) (s1 := (890, [some (.inr (.inr (some (100, 0)))), some (.inr (.inr (some (6, v1)))), some (.inr (.inr (some (7, v2)))), some (.inl v3)], [], mem E mu149 la150)) (s2 := (595, [some (.inr (.inr (some (100, 0)))), some (.inr (.inr (some (6, v1)))), some (.inr (.inr (some (7, v2)))), some (.inl v3)], [], mem E mu149 la150)) rfl rfl rfl rfl (fun hc => ?_) (fun hc => ?_)
                                                      · have h := h.1 hc
                                                        dsimp only
                                                        refine Ev.steps 2 (ip' := 10) (ls' := [some (.inr (.inr (some (100, 0)))), some (.inr (.inr (some (6, v1)))), some (.inr (.inr (some (7, v2)))), some (.inl (v3 + (6 : Int32)))]) (st' := []) (M' := mem E mu149 la150) rfl ?_
                                                        exact h
                                                      · have h := h.2 hc
                                                        dsimp only
                                                        refine Ev.steps 1 (ip' := 596) (ls' := [some (.inr (.inr (some (100, 0)))), some (.inr (.inr (some (6, v1)))), some (.inr (.inr (some (7, v2)))), some (.inl v3)]) (st' := [.inl (0 : Int32)]) (M' := mem E mu149 la150) rfl ?_
                                                        exact Ev.retZ rfl rfl (Or.inl rfl) ⟨_, _, _, rfl, rfl, h⟩
                                                    · have h := h.2 hc24
                                                      by_cases hc25 : ((E.2.1 v3.toNatClampNeg) &&& (63 : Int32)) = 25
                                                      · refine Ev.one (s' := (597, [some (.inr (.inr (some (100, 0)))), some (.inr (.inr (some (6, v1)))), some (.inr (.inr (some (7, v2)))), some (.inl v3)], [], mem E mu la)) rfl rfl rfl (by rw [hc25]; rfl) ?_
                                                        have h := h.1 hc25
                                                        dsimp only
                                                        refine Ev.steps 1 (ip' := 598) (ls' := [some (.inr (.inr (some (100, 0)))), some (.inr (.inr (some (6, v1)))), some (.inr (.inr (some (7, v2)))), some (.inl v3)]) (st' := [.inr (.inr (some (6, v1)))]) (M' := mem E mu la) rfl ?_
                                                        refine Ev.ci (J := mi_75) (as := [.inr (.inr (some (6, v1)))]) (rest := []) rfl rfl rfl (Nat.le_of_ble_eq_true rfl) h (fun x151 mu152 la153 h => ?_)
                                                        refine Ev.steps 1 (ip' := 600) (ls' := [some (.inr (.inr (some (100, 0)))), some (.inr (.inr (some (6, v1)))), some (.inr (.inr (some (7, v2)))), some (.inl v3)]) (st' := [.inr (.inr (some (7, v2))), .inl x151]) (M' := mem E mu152 la153) rfl ?_
                                                        refine Ev.ci (J := mi_196) (as := [.inr (.inr (some (7, v2)))]) (rest := [.inl x151]) rfl rfl rfl (Nat.le_of_ble_eq_true rfl) h (fun x154 mu155 la156 h => ?_)
                                                        refine Ev.br (c := x151 = x154) (s1 := (890, [some (.inr (.inr (some (100, 0)))), some (.inr (.inr (some (6, v1)))), some (.inr (.inr (some (7, v2)))), some (.inl v3)], [], mem E mu155 la156)) (s2 := (602, [some (.inr (.inr (some (100, 0)))), some (.inr (.inr (some (6, v1)))), some (.inr (.inr (some (7, v2)))), some (.inl v3)], [], mem E mu155 la156)) rfl rfl rfl rfl (fun hc => ?_) (fun hc => ?_)
                                                        · have h := h.1 hc
                                                          dsimp only
                                                          refine Ev.steps 2 (ip' := 10) (ls' := [some (.inr (.inr (some (100, 0)))), some (.inr (.inr (some (6, v1)))), some (.inr (.inr (some (7, v2)))), some (.inl (v3 + (6 : Int32)))]) (st' := []) (M' := mem E mu155 la156) rfl ?_
                                                          exact h
                                                        · have h := h.2 hc
                                                          dsimp only
                                                          refine Ev.steps 1 (ip' := 603) (ls' := [some (.inr (.inr (some (100, 0)))), some (.inr (.inr (some (6, v1)))), some (.inr (.inr (some (7, v2)))), some (.inl v3)]) (st' := [.inl (0 : Int32)]) (M' := mem E mu155 la156) rfl ?_
                                                          exact Ev.retZ rfl rfl (Or.inl rfl) ⟨_, _, _, rfl, rfl, h⟩
                                                      · have h := h.2 hc25
                                                        by_cases hc26 : ((E.2.1 v3.toNatClampNeg) &&& (63 : Int32)) = 26
                                                        · refine Ev.one (s' := (604, [some (.inr (.inr (some (100, 0)))), some (.inr (.inr (some (6, v1)))), some (.inr (.inr (some (7, v2)))), some (.inl v3)], [], mem E mu la)) rfl rfl rfl (by rw [hc26]; rfl) ?_
                                                          have h := h.1 hc26
                                                          dsimp only
                                                          refine Ev.steps 1 (ip' := 605) (ls' := [some (.inr (.inr (some (100, 0)))), some (.inr (.inr (some (6, v1)))), some (.inr (.inr (some (7, v2)))), some (.inl v3)]) (st' := [.inr (.inr (some (6, v1)))]) (M' := mem E mu la) rfl ?_
                                                          refine Ev.ci (J := mi_76) (as := [.inr (.inr (some (6, v1)))]) (rest := []) rfl rfl rfl (Nat.le_of_ble_eq_true rfl) h (fun x157 mu158 la159 h => ?_)
                                                          refine Ev.steps 1 (ip' := 607) (ls' := [some (.inr (.inr (some (100, 0)))), some (.inr (.inr (some (6, v1)))), some (.inr (.inr (some (7, v2)))), some (.inl v3)]) (st' := [.inr (.inr (some (7, v2))), .inl x157]) (M' := mem E mu158 la159) rfl ?_
                                                          refine Ev.ci (J := mi_197) (as := [.inr (.inr (some (7, v2)))]) (rest := [.inl x157]) rfl rfl rfl (Nat.le_of_ble_eq_true rfl) h (fun x160 mu161 la162 h => ?_)
                                                          refine Ev.br (c := x157 = x160) (s1 := (890, [some (.inr (.inr (some (100, 0)))), some (.inr (.inr (some (6, v1)))), some (.inr (.inr (some (7, v2)))), some (.inl v3)], [], mem E mu161 la162)) (s2 := (609, [some (.inr (.inr (some (100, 0)))), some (.inr (.inr (some (6, v1)))), some (.inr (.inr (some (7, v2)))), some (.inl v3)], [], mem E mu161 la162)) rfl rfl rfl rfl (fun hc => ?_) (fun hc => ?_)
                                                          · have h := h.1 hc
                                                            dsimp only
                                                            refine Ev.steps 2 (ip' := 10) (ls' := [some (.inr (.inr (some (100, 0)))), some (.inr (.inr (some (6, v1)))), some (.inr (.inr (some (7, v2)))), some (.inl (v3 + (6 : Int32)))]) (st' := []) (M' := mem E mu161 la162) rfl ?_
                                                            exact h
                                                          · have h := h.2 hc
                                                            dsimp only
                                                            refine Ev.steps 1 (ip' := 610) (ls' := [some (.inr (.inr (some (100, 0)))), some (.inr (.inr (some (6, v1)))), some (.inr (.inr (some (7, v2)))), some (.inl v3)]) (st' := [.inl (0 : Int32)]) (M' := mem E mu161 la162) rfl ?_
                                                            exact Ev.retZ rfl rfl (Or.inl rfl) ⟨_, _, _, rfl, rfl, h⟩
                                                        · have h := h.2 hc26
                                                          by_cases hc27 : ((E.2.1 v3.toNatClampNeg) &&& (63 : Int32)) = 27
                                                          · refine Ev.one (s' := (611, [some (.inr (.inr (some (100, 0)))), some (.inr (.inr (some (6, v1)))), some (.inr (.inr (some (7, v2)))), some (.inl v3)], [], mem E mu la)) rfl rfl rfl (by rw [hc27]; rfl) ?_
                                                            have h := h.1 hc27
                                                            dsimp only
                                                            refine Ev.steps 5 (ip' := 616) (ls' := [some (.inr (.inr (some (100, 0)))), some (.inr (.inr (some (6, v1)))), some (.inr (.inr (some (7, v2)))), some (.inl v3)]) (st' := [.inl (v3 + (1 : Int32)), .inr (.inr (some (100, 0))), .inr (.inr (some (6, v1)))]) (M' := mem E mu la) rfl ?_
                                                            refine Ev.alx rfl h.1 ?_
                                                            have h := h.2
                                                            refine Ev.ci (J := mi_77) (as := [.inr (.inr (some (6, v1))), .inl (E.2.1 (v3 + (1 : Int32)).toNatClampNeg)]) (rest := []) rfl rfl rfl (Nat.le_of_ble_eq_true rfl) h (fun x163 mu164 la165 h => ?_)
                                                            refine Ev.steps 5 (ip' := 623) (ls' := [some (.inr (.inr (some (100, 0)))), some (.inr (.inr (some (6, v1)))), some (.inr (.inr (some (7, v2)))), some (.inl v3)]) (st' := [.inl (v3 + (1 : Int32)), .inr (.inr (some (100, 0))), .inr (.inr (some (7, v2))), .inl x163]) (M' := mem E mu164 la165) rfl ?_
                                                            refine Ev.alx rfl h.1 ?_
                                                            have h := h.2
                                                            refine Ev.ci (J := mi_198) (as := [.inr (.inr (some (7, v2))), .inl (E.2.1 (v3 + (1 : Int32)).toNatClampNeg)]) (rest := [.inl x163]) rfl rfl rfl (Nat.le_of_ble_eq_true rfl) h (fun x166 mu167 la168 h => ?_)
                                                            refine Ev.br (c := x163 = x166) (s1 := (890, [some (.inr (.inr (some (100, 0)))), some (.inr (.inr (some (6, v1)))), some (.inr (.inr (some (7, v2)))), some (.inl v3)], [], mem E mu167 la168)) (s2 := (626, [some (.inr (.inr (some (100, 0)))), some (.inr (.inr (some (6, v1)))), some (.inr (.inr (some (7, v2)))), some (.inl v3)], [], mem E mu167 la168)) rfl rfl rfl rfl (fun hc => ?_) (fun hc => ?_)
                                                            · have h := h.1 hc
                                                              dsimp only
                                                              refine Ev.steps 2 (ip' := 10) (ls' := [some (.inr (.inr (some (100, 0)))), some (.inr (.inr (some (6, v1)))), some (.inr (.inr (some (7, v2)))), some (.inl (v3 + (6 : Int32)))]) (st' := []) (M' := mem E mu167 la168) rfl ?_
                                                              exact h
                                                            · have h := h.2 hc
                                                              dsimp only
                                                              refine Ev.steps 1 (ip' := 627) (ls' := [some (.inr (.inr (some (100, 0)))), some (.inr (.inr (some (6, v1)))), some (.inr (.inr (some (7, v2)))), some (.inl v3)]) (st' := [.inl (0 : Int32)]) (M' := mem E mu167 la168) rfl ?_
                                                              exact Ev.retZ rfl rfl (Or.inl rfl) ⟨_, _, _, rfl, rfl, h⟩
                                                          · have h := h.2 hc27
                                                            by_cases hc28 : ((E.2.1 v3.toNatClampNeg) &&& (63 : Int32)) = 28
                                                            · refine Ev.one (s' := (628, [some (.inr (.inr (some (100, 0)))), some (.inr (.inr (some (6, v1)))), some (.inr (.inr (some (7, v2)))), some (.inl v3)], [], mem E mu la)) rfl rfl rfl (by rw [hc28]; rfl) ?_
                                                              have h := h.1 hc28
                                                              dsimp only
                                                              refine Ev.steps 5 (ip' := 633) (ls' := [some (.inr (.inr (some (100, 0)))), some (.inr (.inr (some (6, v1)))), some (.inr (.inr (some (7, v2)))), some (.inl v3)]) (st' := [.inl (v3 + (1 : Int32)), .inr (.inr (some (100, 0))), .inr (.inr (some (6, v1)))]) (M' := mem E mu la) rfl ?_
                                                              refine Ev.alx rfl h.1 ?_
                                                              have h := h.2
                                                              refine Ev.ci (J := mi_78) (as := [.inr (.inr (some (6, v1))), .inl (E.2.1 (v3 + (1 : Int32)).toNatClampNeg)]) (rest := []) rfl rfl rfl (Nat.le_of_ble_eq_true rfl) h (fun x169 mu170 la171 h => ?_)
                                                              refine Ev.steps 5 (ip' := 640) (ls' := [some (.inr (.inr (some (100, 0)))), some (.inr (.inr (some (6, v1)))), some (.inr (.inr (some (7, v2)))), some (.inl v3)]) (st' := [.inl (v3 + (1 : Int32)), .inr (.inr (some (100, 0))), .inr (.inr (some (7, v2))), .inl x169]) (M' := mem E mu170 la171) rfl ?_
                                                              refine Ev.alx rfl h.1 ?_
                                                              have h := h.2
                                                              refine Ev.ci (J := mi_199) (as := [.inr (.inr (some (7, v2))), .inl (E.2.1 (v3 + (1 : Int32)).toNatClampNeg)]) (rest := [.inl x169]) rfl rfl rfl (Nat.le_of_ble_eq_true rfl) h (fun x172 mu173 la174 h => ?_)
                                                              refine Ev.br (c := x169 = x172) (s1 := (890, [some (.inr (.inr (some (100, 0)))), some (.inr (.inr (some (6, v1)))), some (.inr (.inr (some (7, v2)))), some (.inl v3)], [], mem E mu173 la174)) (s2 := (643, [some (.inr (.inr (some (100, 0)))), some (.inr (.inr (some (6, v1)))), some (.inr (.inr (some (7, v2)))), some (.inl v3)], [], mem E mu173 la174)) rfl rfl rfl rfl (fun hc => ?_) (fun hc => ?_)
                                                              · have h := h.1 hc
                                                                dsimp only
                                                                refine Ev.steps 2 (ip' := 10) (ls' := [some (.inr (.inr (some (100, 0)))), some (.inr (.inr (some (6, v1)))), some (.inr (.inr (some (7, v2)))), some (.inl (v3 + (6 : Int32)))]) (st' := []) (M' := mem E mu173 la174) rfl ?_
                                                                exact h
                                                              · have h := h.2 hc
                                                                dsimp only
                                                                refine Ev.steps 1 (ip' := 644) (ls' := [some (.inr (.inr (some (100, 0)))), some (.inr (.inr (some (6, v1)))), some (.inr (.inr (some (7, v2)))), some (.inl v3)]) (st' := [.inl (0 : Int32)]) (M' := mem E mu173 la174) rfl ?_
                                                                exact Ev.retZ rfl rfl (Or.inl rfl) ⟨_, _, _, rfl, rfl, h⟩
                                                            · have h := h.2 hc28
                                                              by_cases hc29 : ((E.2.1 v3.toNatClampNeg) &&& (63 : Int32)) = 29
                                                              · refine Ev.one (s' := (645, [some (.inr (.inr (some (100, 0)))), some (.inr (.inr (some (6, v1)))), some (.inr (.inr (some (7, v2)))), some (.inl v3)], [], mem E mu la)) rfl rfl rfl (by rw [hc29]; rfl) ?_
                                                                have h := h.1 hc29
                                                                dsimp only
                                                                refine Ev.steps 1 (ip' := 646) (ls' := [some (.inr (.inr (some (100, 0)))), some (.inr (.inr (some (6, v1)))), some (.inr (.inr (some (7, v2)))), some (.inl v3)]) (st' := [.inr (.inr (some (6, v1)))]) (M' := mem E mu la) rfl ?_
                                                                refine Ev.ci (J := mi_79) (as := [.inr (.inr (some (6, v1)))]) (rest := []) rfl rfl rfl (Nat.le_of_ble_eq_true rfl) h (fun x175 mu176 la177 h => ?_)
                                                                refine Ev.steps 1 (ip' := 648) (ls' := [some (.inr (.inr (some (100, 0)))), some (.inr (.inr (some (6, v1)))), some (.inr (.inr (some (7, v2)))), some (.inl v3)]) (st' := [.inr (.inr (some (7, v2))), .inl x175]) (M' := mem E mu176 la177) rfl ?_
                                                                refine Ev.ci (J := mi_200) (as := [.inr (.inr (some (7, v2)))]) (rest := [.inl x175]) rfl rfl rfl (Nat.le_of_ble_eq_true rfl) h (fun x178 mu179 la180 h => ?_)
                                                                refine Ev.br (c := x175 = x178) (s1 := (890, [some (.inr (.inr (some (100, 0)))), some (.inr (.inr (some (6, v1)))), some (.inr (.inr (some (7, v2)))), some (.inl v3)], [], mem E mu179 la180)) (s2 := (650, [some (.inr (.inr (some (100, 0)))), some (.inr (.inr (some (6, v1)))), some (.inr (.inr (some (7, v2)))), some (.inl v3)], [], mem E mu179 la180)) rfl rfl rfl rfl (fun hc => ?_) (fun hc => ?_)
                                                                · have h := h.1 hc
                                                                  dsimp only
                                                                  refine Ev.steps 2 (ip' := 10) (ls' := [some (.inr (.inr (some (100, 0)))), some (.inr (.inr (some (6, v1)))), some (.inr (.inr (some (7, v2)))), some (.inl (v3 + (6 : Int32)))]) (st' := []) (M' := mem E mu179 la180) rfl ?_
                                                                  exact h
                                                                · have h := h.2 hc
                                                                  dsimp only
                                                                  refine Ev.steps 1 (ip' := 651) (ls' := [some (.inr (.inr (some (100, 0)))), some (.inr (.inr (some (6, v1)))), some (.inr (.inr (some (7, v2)))), some (.inl v3)]) (st' := [.inl (0 : Int32)]) (M' := mem E mu179 la180) rfl ?_
                                                                  exact Ev.retZ rfl rfl (Or.inl rfl) ⟨_, _, _, rfl, rfl, h⟩
                                                              · have h := h.2 hc29
                                                                by_cases hc30 : ((E.2.1 v3.toNatClampNeg) &&& (63 : Int32)) = 30
                                                                · refine Ev.one (s' := (652, [some (.inr (.inr (some (100, 0)))), some (.inr (.inr (some (6, v1)))), some (.inr (.inr (some (7, v2)))), some (.inl v3)], [], mem E mu la)) rfl rfl rfl (by rw [hc30]; rfl) ?_
                                                                  have h := h.1 hc30
                                                                  dsimp only
                                                                  refine Ev.steps 1 (ip' := 653) (ls' := [some (.inr (.inr (some (100, 0)))), some (.inr (.inr (some (6, v1)))), some (.inr (.inr (some (7, v2)))), some (.inl v3)]) (st' := [.inr (.inr (some (6, v1)))]) (M' := mem E mu la) rfl ?_
                                                                  refine Ev.ci (J := mi_80) (as := [.inr (.inr (some (6, v1)))]) (rest := []) rfl rfl rfl (Nat.le_of_ble_eq_true rfl) h (fun x181 mu182 la183 h => ?_)
                                                                  refine Ev.steps 1 (ip' := 655) (ls' := [some (.inr (.inr (some (100, 0)))), some (.inr (.inr (some (6, v1)))), some (.inr (.inr (some (7, v2)))), some (.inl v3)]) (st' := [.inr (.inr (some (7, v2))), .inl x181]) (M' := mem E mu182 la183) rfl ?_
                                                                  refine Ev.ci (J := mi_201) (as := [.inr (.inr (some (7, v2)))]) (rest := [.inl x181]) rfl rfl rfl (Nat.le_of_ble_eq_true rfl) h (fun x184 mu185 la186 h => ?_)
                                                                  refine Ev.br (c := x181 = x184) (s1 := (890, [some (.inr (.inr (some (100, 0)))), some (.inr (.inr (some (6, v1)))), some (.inr (.inr (some (7, v2)))), some (.inl v3)], [], mem E mu185 la186)) (s2 := (657, [some (.inr (.inr (some (100, 0)))), some (.inr (.inr (some (6, v1)))), some (.inr (.inr (some (7, v2)))), some (.inl v3)], [], mem E mu185 la186)) rfl rfl rfl rfl (fun hc => ?_) (fun hc => ?_)
                                                                  · have h := h.1 hc
                                                                    dsimp only
                                                                    refine Ev.steps 2 (ip' := 10) (ls' := [some (.inr (.inr (some (100, 0)))), some (.inr (.inr (some (6, v1)))), some (.inr (.inr (some (7, v2)))), some (.inl (v3 + (6 : Int32)))]) (st' := []) (M' := mem E mu185 la186) rfl ?_
                                                                    exact h
                                                                  · have h := h.2 hc
                                                                    dsimp only
                                                                    refine Ev.steps 1 (ip' := 658) (ls' := [some (.inr (.inr (some (100, 0)))), some (.inr (.inr (some (6, v1)))), some (.inr (.inr (some (7, v2)))), some (.inl v3)]) (st' := [.inl (0 : Int32)]) (M' := mem E mu185 la186) rfl ?_
                                                                    exact Ev.retZ rfl rfl (Or.inl rfl) ⟨_, _, _, rfl, rfl, h⟩
                                                                · have h := h.2 hc30
                                                                  by_cases hc31 : ((E.2.1 v3.toNatClampNeg) &&& (63 : Int32)) = 31
                                                                  · refine Ev.one (s' := (659, [some (.inr (.inr (some (100, 0)))), some (.inr (.inr (some (6, v1)))), some (.inr (.inr (some (7, v2)))), some (.inl v3)], [], mem E mu la)) rfl rfl rfl (by rw [hc31]; rfl) ?_
                                                                    have h := h.1 hc31
                                                                    dsimp only
                                                                    refine Ev.steps 5 (ip' := 664) (ls' := [some (.inr (.inr (some (100, 0)))), some (.inr (.inr (some (6, v1)))), some (.inr (.inr (some (7, v2)))), some (.inl v3)]) (st' := [.inl (v3 + (1 : Int32)), .inr (.inr (some (100, 0))), .inr (.inr (some (6, v1)))]) (M' := mem E mu la) rfl ?_
                                                                    refine Ev.alx rfl h.1 ?_
                                                                    have h := h.2
                                                                    refine Ev.ci (J := mi_81) (as := [.inr (.inr (some (6, v1))), .inl (E.2.1 (v3 + (1 : Int32)).toNatClampNeg)]) (rest := []) rfl rfl rfl (Nat.le_of_ble_eq_true rfl) h (fun x187 mu188 la189 h => ?_)
                                                                    refine Ev.steps 5 (ip' := 671) (ls' := [some (.inr (.inr (some (100, 0)))), some (.inr (.inr (some (6, v1)))), some (.inr (.inr (some (7, v2)))), some (.inl v3)]) (st' := [.inl (v3 + (1 : Int32)), .inr (.inr (some (100, 0))), .inr (.inr (some (7, v2))), .inl x187]) (M' := mem E mu188 la189) rfl ?_
                                                                    refine Ev.alx rfl h.1 ?_
                                                                    have h := h.2
                                                                    refine Ev.ci (J := mi_202) (as := [.inr (.inr (some (7, v2))), .inl (E.2.1 (v3 + (1 : Int32)).toNatClampNeg)]) (rest := [.inl x187]) rfl rfl rfl (Nat.le_of_ble_eq_true rfl) h (fun x190 mu191 la192 h => ?_)
                                                                    refine Ev.br (c := x187 = x190) (s1 := (890, [some (.inr (.inr (some (100, 0)))), some (.inr (.inr (some (6, v1)))), some (.inr (.inr (some (7, v2)))), some (.inl v3)], [], mem E mu191 la192)) (s2 := (674, [some (.inr (.inr (some (100, 0)))), some (.inr (.inr (some (6, v1)))), some (.inr (.inr (some (7, v2)))), some (.inl v3)], [], mem E mu191 la192)) rfl rfl rfl rfl (fun hc => ?_) (fun hc => ?_)
                                                                    · have h := h.1 hc
                                                                      dsimp only
                                                                      refine Ev.steps 2 (ip' := 10) (ls' := [some (.inr (.inr (some (100, 0)))), some (.inr (.inr (some (6, v1)))), some (.inr (.inr (some (7, v2)))), some (.inl (v3 + (6 : Int32)))]) (st' := []) (M' := mem E mu191 la192) rfl ?_
                                                                      exact h
                                                                    · have h := h.2 hc
                                                                      dsimp only
                                                                      refine Ev.steps 1 (ip' := 675) (ls' := [some (.inr (.inr (some (100, 0)))), some (.inr (.inr (some (6, v1)))), some (.inr (.inr (some (7, v2)))), some (.inl v3)]) (st' := [.inl (0 : Int32)]) (M' := mem E mu191 la192) rfl ?_
                                                                      exact Ev.retZ rfl rfl (Or.inl rfl) ⟨_, _, _, rfl, rfl, h⟩
                                                                  · have h := h.2 hc31
                                                                    by_cases hc32 : ((E.2.1 v3.toNatClampNeg) &&& (63 : Int32)) = 32
                                                                    · refine Ev.one (s' := (676, [some (.inr (.inr (some (100, 0)))), some (.inr (.inr (some (6, v1)))), some (.inr (.inr (some (7, v2)))), some (.inl v3)], [], mem E mu la)) rfl rfl rfl (by rw [hc32]; rfl) ?_
                                                                      have h := h.1 hc32
                                                                      dsimp only
                                                                      refine Ev.steps 5 (ip' := 681) (ls' := [some (.inr (.inr (some (100, 0)))), some (.inr (.inr (some (6, v1)))), some (.inr (.inr (some (7, v2)))), some (.inl v3)]) (st' := [.inl (v3 + (1 : Int32)), .inr (.inr (some (100, 0))), .inr (.inr (some (6, v1)))]) (M' := mem E mu la) rfl ?_
                                                                      refine Ev.alx rfl h.1 ?_
                                                                      have h := h.2
                                                                      refine Ev.ci (J := mi_82) (as := [.inr (.inr (some (6, v1))), .inl (E.2.1 (v3 + (1 : Int32)).toNatClampNeg)]) (rest := []) rfl rfl rfl (Nat.le_of_ble_eq_true rfl) h (fun x193 mu194 la195 h => ?_)
                                                                      refine Ev.steps 5 (ip' := 688) (ls' := [some (.inr (.inr (some (100, 0)))), some (.inr (.inr (some (6, v1)))), some (.inr (.inr (some (7, v2)))), some (.inl v3)]) (st' := [.inl (v3 + (1 : Int32)), .inr (.inr (some (100, 0))), .inr (.inr (some (7, v2))), .inl x193]) (M' := mem E mu194 la195) rfl ?_
                                                                      refine Ev.alx rfl h.1 ?_
                                                                      have h := h.2
                                                                      refine Ev.ci (J := mi_204) (as := [.inr (.inr (some (7, v2))), .inl (E.2.1 (v3 + (1 : Int32)).toNatClampNeg)]) (rest := [.inl x193]) rfl rfl rfl (Nat.le_of_ble_eq_true rfl) h (fun x196 mu197 la198 h => ?_)
                                                                      refine Ev.br (c := x193 = x196) (s1 := (890, [some (.inr (.inr (some (100, 0)))), some (.inr (.inr (some (6, v1)))), some (.inr (.inr (some (7, v2)))), some (.inl v3)], [], mem E mu197 la198)) (s2 := (691, [some (.inr (.inr (some (100, 0)))), some (.inr (.inr (some (6, v1)))), some (.inr (.inr (some (7, v2)))), some (.inl v3)], [], mem E mu197 la198)) rfl rfl rfl rfl (fun hc => ?_) (fun hc => ?_)
                                                                      · have h := h.1 hc
                                                                        dsimp only
                                                                        refine Ev.steps 2 (ip' := 10) (ls' := [some (.inr (.inr (some (100, 0)))), some (.inr (.inr (some (6, v1)))), some (.inr (.inr (some (7, v2)))), some (.inl (v3 + (6 : Int32)))]) (st' := []) (M' := mem E mu197 la198) rfl ?_
                                                                        exact h
                                                                      · have h := h.2 hc
                                                                        dsimp only
                                                                        refine Ev.steps 1 (ip' := 692) (ls' := [some (.inr (.inr (some (100, 0)))), some (.inr (.inr (some (6, v1)))), some (.inr (.inr (some (7, v2)))), some (.inl v3)]) (st' := [.inl (0 : Int32)]) (M' := mem E mu197 la198) rfl ?_
                                                                        exact Ev.retZ rfl rfl (Or.inl rfl) ⟨_, _, _, rfl, rfl, h⟩
                                                                    · have h := h.2 hc32
                                                                      by_cases hc33 : ((E.2.1 v3.toNatClampNeg) &&& (63 : Int32)) = 33
                                                                      · refine Ev.one (s' := (693, [some (.inr (.inr (some (100, 0)))), some (.inr (.inr (some (6, v1)))), some (.inr (.inr (some (7, v2)))), some (.inl v3)], [], mem E mu la)) rfl rfl rfl (by rw [hc33]; rfl) ?_
                                                                        have h := h.1 hc33
                                                                        dsimp only
                                                                        refine Ev.steps 5 (ip' := 698) (ls' := [some (.inr (.inr (some (100, 0)))), some (.inr (.inr (some (6, v1)))), some (.inr (.inr (some (7, v2)))), some (.inl v3)]) (st' := [.inl (v3 + (1 : Int32)), .inr (.inr (some (100, 0))), .inr (.inr (some (6, v1)))]) (M' := mem E mu la) rfl ?_
                                                                        refine Ev.alx rfl h.1 ?_
                                                                        have h := h.2
                                                                        refine Ev.steps 4 (ip' := 703) (ls' := [some (.inr (.inr (some (100, 0)))), some (.inr (.inr (some (6, v1)))), some (.inr (.inr (some (7, v2)))), some (.inl v3)]) (st' := [.inl (v3 + (2 : Int32)), .inr (.inr (some (100, 0))), .inl (E.2.1 (v3 + (1 : Int32)).toNatClampNeg), .inr (.inr (some (6, v1)))]) (M' := mem E mu la) rfl ?_
                                                                        refine Ev.alx rfl h.1 ?_
                                                                        have h := h.2
                                                                        refine Ev.steps 4 (ip' := 708) (ls' := [some (.inr (.inr (some (100, 0)))), some (.inr (.inr (some (6, v1)))), some (.inr (.inr (some (7, v2)))), some (.inl v3)]) (st' := [.inl (v3 + (3 : Int32)), .inr (.inr (some (100, 0))), .inl (E.2.1 (v3 + (2 : Int32)).toNatClampNeg), .inl (E.2.1 (v3 + (1 : Int32)).toNatClampNeg), .inr (.inr (some (6, v1)))]) (M' := mem E mu la) rfl ?_
                                                                        refine Ev.alx rfl h.1 ?_
                                                                        have h := h.2
                                                                        refine Ev.ci (J := mi_83) (as := [.inr (.inr (some (6, v1))), .inl (E.2.1 (v3 + (1 : Int32)).toNatClampNeg), .inl (E.2.1 (v3 + (2 : Int32)).toNatClampNeg), .inl (E.2.1 (v3 + (3 : Int32)).toNatClampNeg)]) (rest := []) rfl rfl rfl (Nat.le_of_ble_eq_true rfl) h (fun x199 mu200 la201 h => ?_)
                                                                        refine Ev.steps 5 (ip' := 715) (ls' := [some (.inr (.inr (some (100, 0)))), some (.inr (.inr (some (6, v1)))), some (.inr (.inr (some (7, v2)))), some (.inl v3)]) (st' := [.inl (v3 + (1 : Int32)), .inr (.inr (some (100, 0))), .inr (.inr (some (7, v2))), .inl x199]) (M' := mem E mu200 la201) rfl ?_
                                                                        refine Ev.alx rfl h.1 ?_
                                                                        have h := h.2
                                                                        refine Ev.steps 4 (ip' := 720) (ls' := [some (.inr (.inr (some (100, 0)))), some (.inr (.inr (some (6, v1)))), some (.inr (.inr (some (7, v2)))), some (.inl v3)]) (st' := [.inl (v3 + (2 : Int32)), .inr (.inr (some (100, 0))), .inl (E.2.1 (v3 + (1 : Int32)).toNatClampNeg), .inr (.inr (some (7, v2))), .inl x199]) (M' := mem E mu200 la201) rfl ?_
                                                                        refine Ev.alx rfl h.1 ?_
                                                                        have h := h.2
                                                                        refine Ev.steps 4 (ip' := 725) (ls' := [some (.inr (.inr (some (100, 0)))), some (.inr (.inr (some (6, v1)))), some (.inr (.inr (some (7, v2)))), some (.inl v3)]) (st' := [.inl (v3 + (3 : Int32)), .inr (.inr (some (100, 0))), .inl (E.2.1 (v3 + (2 : Int32)).toNatClampNeg), .inl (E.2.1 (v3 + (1 : Int32)).toNatClampNeg), .inr (.inr (some (7, v2))), .inl x199]) (M' := mem E mu200 la201) rfl ?_
                                                                        refine Ev.alx rfl h.1 ?_
                                                                        have h := h.2
                                                                        refine Ev.ci (J := mi_205) (as := [.inr (.inr (some (7, v2))), .inl (E.2.1 (v3 + (1 : Int32)).toNatClampNeg), .inl (E.2.1 (v3 + (2 : Int32)).toNatClampNeg), .inl (E.2.1 (v3 + (3 : Int32)).toNatClampNeg)]) (rest := [.inl x199]) rfl rfl rfl (Nat.le_of_ble_eq_true rfl) h (fun x202 mu203 la204 h => ?_)
                                                                        refine Ev.br (c := x199 = x202) (s1 := (890, [some (.inr (.inr (some (100, 0)))), some (.inr (.inr (some (6, v1)))), some (.inr (.inr (some (7, v2)))), some (.inl v3)], [], mem E mu203 la204)) (s2 := (728, [some (.inr (.inr (some (100, 0)))), some (.inr (.inr (some (6, v1)))), some (.inr (.inr (some (7, v2)))), some (.inl v3)], [], mem E mu203 la204)) rfl rfl rfl rfl (fun hc => ?_) (fun hc => ?_)
                                                                        · have h := h.1 hc
                                                                          dsimp only
                                                                          refine Ev.steps 2 (ip' := 10) (ls' := [some (.inr (.inr (some (100, 0)))), some (.inr (.inr (some (6, v1)))), some (.inr (.inr (some (7, v2)))), some (.inl (v3 + (6 : Int32)))]) (st' := []) (M' := mem E mu203 la204) rfl ?_
                                                                          exact h
                                                                        · have h := h.2 hc
                                                                          dsimp only
                                                                          refine Ev.steps 1 (ip' := 729) (ls' := [some (.inr (.inr (some (100, 0)))), some (.inr (.inr (some (6, v1)))), some (.inr (.inr (some (7, v2)))), some (.inl v3)]) (st' := [.inl (0 : Int32)]) (M' := mem E mu203 la204) rfl ?_
                                                                          exact Ev.retZ rfl rfl (Or.inl rfl) ⟨_, _, _, rfl, rfl, h⟩
                                                                      · have h := h.2 hc33
                                                                        by_cases hc34 : ((E.2.1 v3.toNatClampNeg) &&& (63 : Int32)) = 34
                                                                        · refine Ev.one (s' := (730, [some (.inr (.inr (some (100, 0)))), some (.inr (.inr (some (6, v1)))), some (.inr (.inr (some (7, v2)))), some (.inl v3)], [], mem E mu la)) rfl rfl rfl (by rw [hc34]; rfl) ?_
                                                                          have h := h.1 hc34
                                                                          dsimp only
                                                                          refine Ev.steps 5 (ip' := 735) (ls' := [some (.inr (.inr (some (100, 0)))), some (.inr (.inr (some (6, v1)))), some (.inr (.inr (some (7, v2)))), some (.inl v3)]) (st' := [.inl (v3 + (1 : Int32)), .inr (.inr (some (100, 0))), .inr (.inr (some (6, v1)))]) (M' := mem E mu la) rfl ?_
                                                                          refine Ev.alx rfl h.1 ?_
                                                                          have h := h.2
                                                                          refine Ev.ci (J := mi_84) (as := [.inr (.inr (some (6, v1))), .inl (E.2.1 (v3 + (1 : Int32)).toNatClampNeg)]) (rest := []) rfl rfl rfl (Nat.le_of_ble_eq_true rfl) h (fun x205 mu206 la207 h => ?_)
                                                                          refine Ev.steps 5 (ip' := 742) (ls' := [some (.inr (.inr (some (100, 0)))), some (.inr (.inr (some (6, v1)))), some (.inr (.inr (some (7, v2)))), some (.inl v3)]) (st' := [.inl (v3 + (1 : Int32)), .inr (.inr (some (100, 0))), .inr (.inr (some (7, v2))), .inl x205]) (M' := mem E mu206 la207) rfl ?_
                                                                          refine Ev.alx rfl h.1 ?_
                                                                          have h := h.2
                                                                          refine Ev.ci (J := mi_210) (as := [.inr (.inr (some (7, v2))), .inl (E.2.1 (v3 + (1 : Int32)).toNatClampNeg)]) (rest := [.inl x205]) rfl rfl rfl (Nat.le_of_ble_eq_true rfl) h (fun x208 mu209 la210 h => ?_)
                                                                          refine Ev.br (c := x205 = x208) (s1 := (890, [some (.inr (.inr (some (100, 0)))), some (.inr (.inr (some (6, v1)))), some (.inr (.inr (some (7, v2)))), some (.inl v3)], [], mem E mu209 la210)) (s2 := (745, [some (.inr (.inr (some (100, 0)))), some (.inr (.inr (some (6, v1)))), some (.inr (.inr (some (7, v2)))), some (.inl v3)], [], mem E mu209 la210)) rfl rfl rfl rfl (fun hc => ?_) (fun hc => ?_)
                                                                          · have h := h.1 hc
                                                                            dsimp only
                                                                            refine Ev.steps 2 (ip' := 10) (ls' := [some (.inr (.inr (some (100, 0)))), some (.inr (.inr (some (6, v1)))), some (.inr (.inr (some (7, v2)))), some (.inl (v3 + (6 : Int32)))]) (st' := []) (M' := mem E mu209 la210) rfl ?_
                                                                            exact h
                                                                          · have h := h.2 hc
                                                                            dsimp only
                                                                            refine Ev.steps 1 (ip' := 746) (ls' := [some (.inr (.inr (some (100, 0)))), some (.inr (.inr (some (6, v1)))), some (.inr (.inr (some (7, v2)))), some (.inl v3)]) (st' := [.inl (0 : Int32)]) (M' := mem E mu209 la210) rfl ?_
                                                                            exact Ev.retZ rfl rfl (Or.inl rfl) ⟨_, _, _, rfl, rfl, h⟩
                                                                        · have h := h.2 hc34
                                                                          by_cases hc35 : ((E.2.1 v3.toNatClampNeg) &&& (63 : Int32)) = 35
                                                                          · refine Ev.one (s' := (747, [some (.inr (.inr (some (100, 0)))), some (.inr (.inr (some (6, v1)))), some (.inr (.inr (some (7, v2)))), some (.inl v3)], [], mem E mu la)) rfl rfl rfl (by rw [hc35]; rfl) ?_
                                                                            have h := h.1 hc35
                                                                            dsimp only
                                                                            refine Ev.steps 5 (ip' := 752) (ls' := [some (.inr (.inr (some (100, 0)))), some (.inr (.inr (some (6, v1)))), some (.inr (.inr (some (7, v2)))), some (.inl v3)]) (st' := [.inl (v3 + (1 : Int32)), .inr (.inr (some (100, 0))), .inr (.inr (some (6, v1)))]) (M' := mem E mu la) rfl ?_
                                                                            refine Ev.alx rfl h.1 ?_
                                                                            have h := h.2
                                                                            refine Ev.steps 4 (ip' := 757) (ls' := [some (.inr (.inr (some (100, 0)))), some (.inr (.inr (some (6, v1)))), some (.inr (.inr (some (7, v2)))), some (.inl v3)]) (st' := [.inl (v3 + (2 : Int32)), .inr (.inr (some (100, 0))), .inl (E.2.1 (v3 + (1 : Int32)).toNatClampNeg), .inr (.inr (some (6, v1)))]) (M' := mem E mu la) rfl ?_
                                                                            refine Ev.alx rfl h.1 ?_
                                                                            have h := h.2
                                                                            refine Ev.ci (J := mi_85) (as := [.inr (.inr (some (6, v1))), .inl (E.2.1 (v3 + (1 : Int32)).toNatClampNeg), .inl (E.2.1 (v3 + (2 : Int32)).toNatClampNeg)]) (rest := []) rfl rfl rfl (Nat.le_of_ble_eq_true rfl) h (fun x211 mu212 la213 h => ?_)
                                                                            refine Ev.steps 5 (ip' := 764) (ls' := [some (.inr (.inr (some (100, 0)))), some (.inr (.inr (some (6, v1)))), some (.inr (.inr (some (7, v2)))), some (.inl v3)]) (st' := [.inl (v3 + (1 : Int32)), .inr (.inr (some (100, 0))), .inr (.inr (some (7, v2))), .inl x211]) (M' := mem E mu212 la213) rfl ?_
                                                                            refine Ev.alx rfl h.1 ?_
                                                                            have h := h.2
                                                                            refine Ev.steps 4 (ip' := 769) (ls' := [some (.inr (.inr (some (100, 0)))), some (.inr (.inr (some (6, v1)))), some (.inr (.inr (some (7, v2)))), some (.inl v3)]) (st' := [.inl (v3 + (2 : Int32)), .inr (.inr (some (100, 0))), .inl (E.2.1 (v3 + (1 : Int32)).toNatClampNeg), .inr (.inr (some (7, v2))), .inl x211]) (M' := mem E mu212 la213) rfl ?_
                                                                            refine Ev.alx rfl h.1 ?_
                                                                            have h := h.2
                                                                            refine Ev.ci (J := mi_214) (as := [.inr (.inr (some (7, v2))), .inl (E.2.1 (v3 + (1 : Int32)).toNatClampNeg), .inl (E.2.1 (v3 + (2 : Int32)).toNatClampNeg)]) (rest := [.inl x211]) rfl rfl rfl (Nat.le_of_ble_eq_true rfl) h (fun x214 mu215 la216 h => ?_)
                                                                            refine Ev.br (c := x211 = x214) (s1 := (890, [some (.inr (.inr (some (100, 0)))), some (.inr (.inr (some (6, v1)))), some (.inr (.inr (some (7, v2)))), some (.inl v3)], [], mem E mu215 la216)) (s2 := (772, [some (.inr (.inr (some (100, 0)))), some (.inr (.inr (some (6, v1)))), some (.inr (.inr (some (7, v2)))), some (.inl v3)], [], mem E mu215 la216)) rfl rfl rfl rfl (fun hc => ?_) (fun hc => ?_)
                                                                            · have h := h.1 hc
                                                                              dsimp only
                                                                              refine Ev.steps 2 (ip' := 10) (ls' := [some (.inr (.inr (some (100, 0)))), some (.inr (.inr (some (6, v1)))), some (.inr (.inr (some (7, v2)))), some (.inl (v3 + (6 : Int32)))]) (st' := []) (M' := mem E mu215 la216) rfl ?_
                                                                              exact h
                                                                            · have h := h.2 hc
                                                                              dsimp only
                                                                              refine Ev.steps 1 (ip' := 773) (ls' := [some (.inr (.inr (some (100, 0)))), some (.inr (.inr (some (6, v1)))), some (.inr (.inr (some (7, v2)))), some (.inl v3)]) (st' := [.inl (0 : Int32)]) (M' := mem E mu215 la216) rfl ?_
                                                                              exact Ev.retZ rfl rfl (Or.inl rfl) ⟨_, _, _, rfl, rfl, h⟩
                                                                          · have h := h.2 hc35
                                                                            by_cases hc36 : ((E.2.1 v3.toNatClampNeg) &&& (63 : Int32)) = 36
                                                                            · refine Ev.one (s' := (774, [some (.inr (.inr (some (100, 0)))), some (.inr (.inr (some (6, v1)))), some (.inr (.inr (some (7, v2)))), some (.inl v3)], [], mem E mu la)) rfl rfl rfl (by rw [hc36]; rfl) ?_
                                                                              have h := h.1 hc36
                                                                              dsimp only
                                                                              refine Ev.steps 5 (ip' := 779) (ls' := [some (.inr (.inr (some (100, 0)))), some (.inr (.inr (some (6, v1)))), some (.inr (.inr (some (7, v2)))), some (.inl v3)]) (st' := [.inl (v3 + (1 : Int32)), .inr (.inr (some (100, 0))), .inr (.inr (some (6, v1)))]) (M' := mem E mu la) rfl ?_
                                                                              refine Ev.alx rfl h.1 ?_
                                                                              have h := h.2
                                                                              refine Ev.ci (J := mi_86) (as := [.inr (.inr (some (6, v1))), .inl (E.2.1 (v3 + (1 : Int32)).toNatClampNeg)]) (rest := []) rfl rfl rfl (Nat.le_of_ble_eq_true rfl) h (fun x217 mu218 la219 h => ?_)
                                                                              refine Ev.steps 5 (ip' := 786) (ls' := [some (.inr (.inr (some (100, 0)))), some (.inr (.inr (some (6, v1)))), some (.inr (.inr (some (7, v2)))), some (.inl v3)]) (st' := [.inl (v3 + (1 : Int32)), .inr (.inr (some (100, 0))), .inr (.inr (some (7, v2))), .inl x217]) (M' := mem E mu218 la219) rfl ?_
                                                                              refine Ev.alx rfl h.1 ?_
                                                                              have h := h.2
                                                                              refine Ev.ci (J := mi_215) (as := [.inr (.inr (some (7, v2))), .inl (E.2.1 (v3 + (1 : Int32)).toNatClampNeg)]) (rest := [.inl x217]) rfl rfl rfl (Nat.le_of_ble_eq_true rfl) h (fun x220 mu221 la222 h => ?_)
                                                                              refine Ev.br (c := x217 = x220) (s1 := (890, [some (.inr (.inr (some (100, 0)))), some (.inr (.inr (some (6, v1)))), some (.inr (.inr (some (7, v2)))), some (.inl v3)], [], mem E mu221 la222)) (s2 := (789, [some (.inr (.inr (some (100, 0)))), some (.inr (.inr (some (6, v1)))), some (.inr (.inr (some (7, v2)))), some (.inl v3)], [], mem E mu221 la222)) rfl rfl rfl rfl (fun hc => ?_) (fun hc => ?_)
                                                                              · have h := h.1 hc
                                                                                dsimp only
                                                                                refine Ev.steps 2 (ip' := 10) (ls' := [some (.inr (.inr (some (100, 0)))), some (.inr (.inr (some (6, v1)))), some (.inr (.inr (some (7, v2)))), some (.inl (v3 + (6 : Int32)))]) (st' := []) (M' := mem E mu221 la222) rfl ?_
                                                                                exact h
                                                                              · have h := h.2 hc
                                                                                dsimp only
                                                                                refine Ev.steps 1 (ip' := 790) (ls' := [some (.inr (.inr (some (100, 0)))), some (.inr (.inr (some (6, v1)))), some (.inr (.inr (some (7, v2)))), some (.inl v3)]) (st' := [.inl (0 : Int32)]) (M' := mem E mu221 la222) rfl ?_
                                                                                exact Ev.retZ rfl rfl (Or.inl rfl) ⟨_, _, _, rfl, rfl, h⟩
                                                                            · have h := h.2 hc36
                                                                              by_cases hc37 : ((E.2.1 v3.toNatClampNeg) &&& (63 : Int32)) = 37
                                                                              · refine Ev.one (s' := (791, [some (.inr (.inr (some (100, 0)))), some (.inr (.inr (some (6, v1)))), some (.inr (.inr (some (7, v2)))), some (.inl v3)], [], mem E mu la)) rfl rfl rfl (by rw [hc37]; rfl) ?_
                                                                                have h := h.1 hc37
                                                                                dsimp only
                                                                                refine Ev.steps 5 (ip' := 796) (ls' := [some (.inr (.inr (some (100, 0)))), some (.inr (.inr (some (6, v1)))), some (.inr (.inr (some (7, v2)))), some (.inl v3)]) (st' := [.inl (v3 + (1 : Int32)), .inr (.inr (some (100, 0))), .inr (.inr (some (6, v1)))]) (M' := mem E mu la) rfl ?_
                                                                                refine Ev.alx rfl h.1 ?_
                                                                                have h := h.2
                                                                                refine Ev.steps 4 (ip' := 801) (ls' := [some (.inr (.inr (some (100, 0)))), some (.inr (.inr (some (6, v1)))), some (.inr (.inr (some (7, v2)))), some (.inl v3)]) (st' := [.inl (v3 + (2 : Int32)), .inr (.inr (some (100, 0))), .inl (E.2.1 (v3 + (1 : Int32)).toNatClampNeg), .inr (.inr (some (6, v1)))]) (M' := mem E mu la) rfl ?_
                                                                                refine Ev.alx rfl h.1 ?_
                                                                                have h := h.2
                                                                                refine Ev.ci (J := mi_87) (as := [.inr (.inr (some (6, v1))), .inl (E.2.1 (v3 + (1 : Int32)).toNatClampNeg), .inl (E.2.1 (v3 + (2 : Int32)).toNatClampNeg)]) (rest := []) rfl rfl rfl (Nat.le_of_ble_eq_true rfl) h (fun x223 mu224 la225 h => ?_)
                                                                                refine Ev.steps 5 (ip' := 808) (ls' := [some (.inr (.inr (some (100, 0)))), some (.inr (.inr (some (6, v1)))), some (.inr (.inr (some (7, v2)))), some (.inl v3)]) (st' := [.inl (v3 + (1 : Int32)), .inr (.inr (some (100, 0))), .inr (.inr (some (7, v2))), .inl x223]) (M' := mem E mu224 la225) rfl ?_
                                                                                refine Ev.alx rfl h.1 ?_
                                                                                have h := h.2
                                                                                refine Ev.steps 4 (ip' := 813) (ls' := [some (.inr (.inr (some (100, 0)))), some (.inr (.inr (some (6, v1)))), some (.inr (.inr (some (7, v2)))), some (.inl v3)]) (st' := [.inl (v3 + (2 : Int32)), .inr (.inr (some (100, 0))), .inl (E.2.1 (v3 + (1 : Int32)).toNatClampNeg), .inr (.inr (some (7, v2))), .inl x223]) (M' := mem E mu224 la225) rfl ?_
                                                                                refine Ev.alx rfl h.1 ?_
                                                                                have h := h.2
                                                                                refine Ev.ci (J := mi_217) (as := [.inr (.inr (some (7, v2))), .inl (E.2.1 (v3 + (1 : Int32)).toNatClampNeg), .inl (E.2.1 (v3 + (2 : Int32)).toNatClampNeg)]) (rest := [.inl x223]) rfl rfl rfl (Nat.le_of_ble_eq_true rfl) h (fun x226 mu227 la228 h => ?_)
                                                                                refine Ev.br (c := x223 = x226) (s1 := (890, [some (.inr (.inr (some (100, 0)))), some (.inr (.inr (some (6, v1)))), some (.inr (.inr (some (7, v2)))), some (.inl v3)], [], mem E mu227 la228)) (s2 := (816, [some (.inr (.inr (some (100, 0)))), some (.inr (.inr (some (6, v1)))), some (.inr (.inr (some (7, v2)))), some (.inl v3)], [], mem E mu227 la228)) rfl rfl rfl rfl (fun hc => ?_) (fun hc => ?_)
                                                                                · have h := h.1 hc
                                                                                  dsimp only
                                                                                  refine Ev.steps 2 (ip' := 10) (ls' := [some (.inr (.inr (some (100, 0)))), some (.inr (.inr (some (6, v1)))), some (.inr (.inr (some (7, v2)))), some (.inl (v3 + (6 : Int32)))]) (st' := []) (M' := mem E mu227 la228) rfl ?_
                                                                                  exact h
                                                                                · have h := h.2 hc
                                                                                  dsimp only
                                                                                  refine Ev.steps 1 (ip' := 817) (ls' := [some (.inr (.inr (some (100, 0)))), some (.inr (.inr (some (6, v1)))), some (.inr (.inr (some (7, v2)))), some (.inl v3)]) (st' := [.inl (0 : Int32)]) (M' := mem E mu227 la228) rfl ?_
                                                                                  exact Ev.retZ rfl rfl (Or.inl rfl) ⟨_, _, _, rfl, rfl, h⟩
                                                                              · have h := h.2 hc37
                                                                                by_cases hc38 : ((E.2.1 v3.toNatClampNeg) &&& (63 : Int32)) = 38
                                                                                · refine Ev.one (s' := (818, [some (.inr (.inr (some (100, 0)))), some (.inr (.inr (some (6, v1)))), some (.inr (.inr (some (7, v2)))), some (.inl v3)], [], mem E mu la)) rfl rfl rfl (by rw [hc38]; rfl) ?_
                                                                                  have h := h.1 hc38
                                                                                  dsimp only
                                                                                  refine Ev.steps 1 (ip' := 819) (ls' := [some (.inr (.inr (some (100, 0)))), some (.inr (.inr (some (6, v1)))), some (.inr (.inr (some (7, v2)))), some (.inl v3)]) (st' := [.inr (.inr (some (6, v1)))]) (M' := mem E mu la) rfl ?_
                                                                                  refine Ev.ci (J := mi_88) (as := [.inr (.inr (some (6, v1)))]) (rest := []) rfl rfl rfl (Nat.le_of_ble_eq_true rfl) h (fun x229 mu230 la231 h => ?_)
                                                                                  refine Ev.steps 1 (ip' := 821) (ls' := [some (.inr (.inr (some (100, 0)))), some (.inr (.inr (some (6, v1)))), some (.inr (.inr (some (7, v2)))), some (.inl v3)]) (st' := [.inr (.inr (some (7, v2))), .inl x229]) (M' := mem E mu230 la231) rfl ?_
                                                                                  refine Ev.ci (J := mi_218) (as := [.inr (.inr (some (7, v2)))]) (rest := [.inl x229]) rfl rfl rfl (Nat.le_of_ble_eq_true rfl) h (fun x232 mu233 la234 h => ?_)
                                                                                  refine Ev.br (c := x229 = x232) (s1 := (890, [some (.inr (.inr (some (100, 0)))), some (.inr (.inr (some (6, v1)))), some (.inr (.inr (some (7, v2)))), some (.inl v3)], [], mem E mu233 la234)) (s2 := (823, [some (.inr (.inr (some (100, 0)))), some (.inr (.inr (some (6, v1)))), some (.inr (.inr (some (7, v2)))), some (.inl v3)], [], mem E mu233 la234)) rfl rfl rfl rfl (fun hc => ?_) (fun hc => ?_)
                                                                                  · have h := h.1 hc
                                                                                    dsimp only
                                                                                    refine Ev.steps 2 (ip' := 10) (ls' := [some (.inr (.inr (some (100, 0)))), some (.inr (.inr (some (6, v1)))), some (.inr (.inr (some (7, v2)))), some (.inl (v3 + (6 : Int32)))]) (st' := []) (M' := mem E mu233 la234) rfl ?_
                                                                                    exact h
                                                                                  · have h := h.2 hc
                                                                                    dsimp only
                                                                                    refine Ev.steps 1 (ip' := 824) (ls' := [some (.inr (.inr (some (100, 0)))), some (.inr (.inr (some (6, v1)))), some (.inr (.inr (some (7, v2)))), some (.inl v3)]) (st' := [.inl (0 : Int32)]) (M' := mem E mu233 la234) rfl ?_
                                                                                    exact Ev.retZ rfl rfl (Or.inl rfl) ⟨_, _, _, rfl, rfl, h⟩
                                                                                · have h := h.2 hc38
                                                                                  by_cases hc39 : ((E.2.1 v3.toNatClampNeg) &&& (63 : Int32)) = 39
                                                                                  · refine Ev.one (s' := (825, [some (.inr (.inr (some (100, 0)))), some (.inr (.inr (some (6, v1)))), some (.inr (.inr (some (7, v2)))), some (.inl v3)], [], mem E mu la)) rfl rfl rfl (by rw [hc39]; rfl) ?_
                                                                                    have h := h.1 hc39
                                                                                    dsimp only
                                                                                    refine Ev.steps 1 (ip' := 826) (ls' := [some (.inr (.inr (some (100, 0)))), some (.inr (.inr (some (6, v1)))), some (.inr (.inr (some (7, v2)))), some (.inl v3)]) (st' := [.inr (.inr (some (6, v1)))]) (M' := mem E mu la) rfl ?_
                                                                                    refine Ev.cl (J := mi_89) (as := [.inr (.inr (some (6, v1)))]) (rest := []) rfl rfl rfl (Nat.le_of_ble_eq_true rfl) h (fun x235 mu236 la237 h => ?_)
                                                                                    refine Ev.steps 1 (ip' := 828) (ls' := [some (.inr (.inr (some (100, 0)))), some (.inr (.inr (some (6, v1)))), some (.inr (.inr (some (7, v2)))), some (.inl v3)]) (st' := [.inr (.inr (some (7, v2))), .inr (.inl x235)]) (M' := mem E mu236 la237) rfl ?_
                                                                                    refine Ev.cl (J := mi_219) (as := [.inr (.inr (some (7, v2)))]) (rest := [.inr (.inl x235)]) rfl rfl rfl (Nat.le_of_ble_eq_true rfl) h (fun x238 mu239 la240 h => ?_)
                                                                                    refine Ev.steps 1 (ip' := 830) (ls' := [some (.inr (.inr (some (100, 0)))), some (.inr (.inr (some (6, v1)))), some (.inr (.inr (some (7, v2)))), some (.inl v3)]) (st' := [.inl (lg_cmp x235 x238)]) (M' := mem E mu239 la240) rfl ?_
                                                                                    refine Ev.br (c := (lg_cmp x235 x238) = 0) (s1 := (890, [some (.inr (.inr (some (100, 0)))), some (.inr (.inr (some (6, v1)))), some (.inr (.inr (some (7, v2)))), some (.inl v3)], [], mem E mu239 la240)) (s2 := (831, [some (.inr (.inr (some (100, 0)))), some (.inr (.inr (some (6, v1)))), some (.inr (.inr (some (7, v2)))), some (.inl v3)], [], mem E mu239 la240)) rfl rfl rfl rfl (fun hc => ?_) (fun hc => ?_)
                                                                                    · have h := h.1 hc
                                                                                      dsimp only
                                                                                      refine Ev.steps 2 (ip' := 10) (ls' := [some (.inr (.inr (some (100, 0)))), some (.inr (.inr (some (6, v1)))), some (.inr (.inr (some (7, v2)))), some (.inl (v3 + (6 : Int32)))]) (st' := []) (M' := mem E mu239 la240) rfl ?_
                                                                                      exact h
                                                                                    · have h := h.2 hc
                                                                                      dsimp only
                                                                                      refine Ev.steps 1 (ip' := 832) (ls' := [some (.inr (.inr (some (100, 0)))), some (.inr (.inr (some (6, v1)))), some (.inr (.inr (some (7, v2)))), some (.inl v3)]) (st' := [.inl (0 : Int32)]) (M' := mem E mu239 la240) rfl ?_
                                                                                      exact Ev.retZ rfl rfl (Or.inl rfl) ⟨_, _, _, rfl, rfl, h⟩
                                                                                  · have h := h.2 hc39
                                                                                    by_cases hc40 : ((E.2.1 v3.toNatClampNeg) &&& (63 : Int32)) = 40
                                                                                    · refine Ev.one (s' := (833, [some (.inr (.inr (some (100, 0)))), some (.inr (.inr (some (6, v1)))), some (.inr (.inr (some (7, v2)))), some (.inl v3)], [], mem E mu la)) rfl rfl rfl (by rw [hc40]; rfl) ?_
                                                                                      have h := h.1 hc40
                                                                                      dsimp only
                                                                                      refine Ev.steps 1 (ip' := 834) (ls' := [some (.inr (.inr (some (100, 0)))), some (.inr (.inr (some (6, v1)))), some (.inr (.inr (some (7, v2)))), some (.inl v3)]) (st' := [.inr (.inr (some (6, v1)))]) (M' := mem E mu la) rfl ?_
                                                                                      refine Ev.cl (J := mi_90) (as := [.inr (.inr (some (6, v1)))]) (rest := []) rfl rfl rfl (Nat.le_of_ble_eq_true rfl) h (fun x241 mu242 la243 h => ?_)
                                                                                      refine Ev.steps 1 (ip' := 836) (ls' := [some (.inr (.inr (some (100, 0)))), some (.inr (.inr (some (6, v1)))), some (.inr (.inr (some (7, v2)))), some (.inl v3)]) (st' := [.inr (.inr (some (7, v2))), .inr (.inl x241)]) (M' := mem E mu242 la243) rfl ?_
                                                                                      refine Ev.cl (J := mi_220) (as := [.inr (.inr (some (7, v2)))]) (rest := [.inr (.inl x241)]) rfl rfl rfl (Nat.le_of_ble_eq_true rfl) h (fun x244 mu245 la246 h => ?_)
                                                                                      refine Ev.steps 1 (ip' := 838) (ls' := [some (.inr (.inr (some (100, 0)))), some (.inr (.inr (some (6, v1)))), some (.inr (.inr (some (7, v2)))), some (.inl v3)]) (st' := [.inl (lg_cmp x241 x244)]) (M' := mem E mu245 la246) rfl ?_
                                                                                      refine Ev.br (c := (lg_cmp x241 x244) = 0) (s1 := (890, [some (.inr (.inr (some (100, 0)))), some (.inr (.inr (some (6, v1)))), some (.inr (.inr (some (7, v2)))), some (.inl v3)], [], mem E mu245 la246)) (s2 := (839, [some (.inr (.inr (some (100, 0)))), some (.inr (.inr (some (6, v1)))), some (.inr (.inr (some (7, v2)))), some (.inl v3)], [], mem E mu245 la246)) rfl rfl rfl rfl (fun hc => ?_) (fun hc => ?_)
                                                                                      · have h := h.1 hc
                                                                                        dsimp only
                                                                                        refine Ev.steps 2 (ip' := 10) (ls' := [some (.inr (.inr (some (100, 0)))), some (.inr (.inr (some (6, v1)))), some (.inr (.inr (some (7, v2)))), some (.inl (v3 + (6 : Int32)))]) (st' := []) (M' := mem E mu245 la246) rfl ?_
                                                                                        exact h
                                                                                      · have h := h.2 hc
                                                                                        dsimp only
                                                                                        refine Ev.steps 1 (ip' := 840) (ls' := [some (.inr (.inr (some (100, 0)))), some (.inr (.inr (some (6, v1)))), some (.inr (.inr (some (7, v2)))), some (.inl v3)]) (st' := [.inl (0 : Int32)]) (M' := mem E mu245 la246) rfl ?_
                                                                                        exact Ev.retZ rfl rfl (Or.inl rfl) ⟨_, _, _, rfl, rfl, h⟩
                                                                                    · have h := h.2 hc40
                                                                                      by_cases hc41 : ((E.2.1 v3.toNatClampNeg) &&& (63 : Int32)) = 41
                                                                                      · refine Ev.one (s' := (841, [some (.inr (.inr (some (100, 0)))), some (.inr (.inr (some (6, v1)))), some (.inr (.inr (some (7, v2)))), some (.inl v3)], [], mem E mu la)) rfl rfl rfl (by rw [hc41]; rfl) ?_
                                                                                        have h := h.1 hc41
                                                                                        dsimp only
                                                                                        refine Ev.steps 5 (ip' := 846) (ls' := [some (.inr (.inr (some (100, 0)))), some (.inr (.inr (some (6, v1)))), some (.inr (.inr (some (7, v2)))), some (.inl v3)]) (st' := [.inl (v3 + (1 : Int32)), .inr (.inr (some (100, 0))), .inr (.inr (some (6, v1)))]) (M' := mem E mu la) rfl ?_
                                                                                        refine Ev.alx rfl h.1 ?_
                                                                                        have h := h.2
                                                                                        refine Ev.ci (J := mi_91) (as := [.inr (.inr (some (6, v1))), .inl (E.2.1 (v3 + (1 : Int32)).toNatClampNeg)]) (rest := []) rfl rfl rfl (Nat.le_of_ble_eq_true rfl) h (fun x247 mu248 la249 h => ?_)
                                                                                        refine Ev.steps 5 (ip' := 853) (ls' := [some (.inr (.inr (some (100, 0)))), some (.inr (.inr (some (6, v1)))), some (.inr (.inr (some (7, v2)))), some (.inl v3)]) (st' := [.inl (v3 + (1 : Int32)), .inr (.inr (some (100, 0))), .inr (.inr (some (7, v2))), .inl x247]) (M' := mem E mu248 la249) rfl ?_
                                                                                        refine Ev.alx rfl h.1 ?_
                                                                                        have h := h.2
                                                                                        refine Ev.ci (J := mi_223) (as := [.inr (.inr (some (7, v2))), .inl (E.2.1 (v3 + (1 : Int32)).toNatClampNeg)]) (rest := [.inl x247]) rfl rfl rfl (Nat.le_of_ble_eq_true rfl) h (fun x250 mu251 la252 h => ?_)
                                                                                        refine Ev.br (c := x247 = x250) (s1 := (890, [some (.inr (.inr (some (100, 0)))), some (.inr (.inr (some (6, v1)))), some (.inr (.inr (some (7, v2)))), some (.inl v3)], [], mem E mu251 la252)) (s2 := (856, [some (.inr (.inr (some (100, 0)))), some (.inr (.inr (some (6, v1)))), some (.inr (.inr (some (7, v2)))), some (.inl v3)], [], mem E mu251 la252)) rfl rfl rfl rfl (fun hc => ?_) (fun hc => ?_)
                                                                                        · have h := h.1 hc
                                                                                          dsimp only
                                                                                          refine Ev.steps 2 (ip' := 10) (ls' := [some (.inr (.inr (some (100, 0)))), some (.inr (.inr (some (6, v1)))), some (.inr (.inr (some (7, v2)))), some (.inl (v3 + (6 : Int32)))]) (st' := []) (M' := mem E mu251 la252) rfl ?_
                                                                                          exact h
                                                                                        · have h := h.2 hc
                                                                                          dsimp only
                                                                                          refine Ev.steps 1 (ip' := 857) (ls' := [some (.inr (.inr (some (100, 0)))), some (.inr (.inr (some (6, v1)))), some (.inr (.inr (some (7, v2)))), some (.inl v3)]) (st' := [.inl (0 : Int32)]) (M' := mem E mu251 la252) rfl ?_
                                                                                          exact Ev.retZ rfl rfl (Or.inl rfl) ⟨_, _, _, rfl, rfl, h⟩
                                                                                      · have h := h.2 hc41
                                                                                        by_cases hc42 : ((E.2.1 v3.toNatClampNeg) &&& (63 : Int32)) = 42
                                                                                        · refine Ev.one (s' := (858, [some (.inr (.inr (some (100, 0)))), some (.inr (.inr (some (6, v1)))), some (.inr (.inr (some (7, v2)))), some (.inl v3)], [], mem E mu la)) rfl rfl rfl (by rw [hc42]; rfl) ?_
                                                                                          have h := h.1 hc42
                                                                                          dsimp only
                                                                                          refine Ev.steps 1 (ip' := 859) (ls' := [some (.inr (.inr (some (100, 0)))), some (.inr (.inr (some (6, v1)))), some (.inr (.inr (some (7, v2)))), some (.inl v3)]) (st' := [.inr (.inr (some (6, v1)))]) (M' := mem E mu la) rfl ?_
                                                                                          refine Ev.ci (J := mi_92) (as := [.inr (.inr (some (6, v1)))]) (rest := []) rfl rfl rfl (Nat.le_of_ble_eq_true rfl) h (fun x253 mu254 la255 h => ?_)
                                                                                          refine Ev.steps 1 (ip' := 861) (ls' := [some (.inr (.inr (some (100, 0)))), some (.inr (.inr (some (6, v1)))), some (.inr (.inr (some (7, v2)))), some (.inl v3)]) (st' := [.inr (.inr (some (7, v2))), .inl x253]) (M' := mem E mu254 la255) rfl ?_
                                                                                          refine Ev.ci (J := mi_224) (as := [.inr (.inr (some (7, v2)))]) (rest := [.inl x253]) rfl rfl rfl (Nat.le_of_ble_eq_true rfl) h (fun x256 mu257 la258 h => ?_)
                                                                                          refine Ev.br (c := x253 = x256) (s1 := (890, [some (.inr (.inr (some (100, 0)))), some (.inr (.inr (some (6, v1)))), some (.inr (.inr (some (7, v2)))), some (.inl v3)], [], mem E mu257 la258)) (s2 := (863, [some (.inr (.inr (some (100, 0)))), some (.inr (.inr (some (6, v1)))), some (.inr (.inr (some (7, v2)))), some (.inl v3)], [], mem E mu257 la258)) rfl rfl rfl rfl (fun hc => ?_) (fun hc => ?_)
                                                                                          · have h := h.1 hc
                                                                                            dsimp only
                                                                                            refine Ev.steps 2 (ip' := 10) (ls' := [some (.inr (.inr (some (100, 0)))), some (.inr (.inr (some (6, v1)))), some (.inr (.inr (some (7, v2)))), some (.inl (v3 + (6 : Int32)))]) (st' := []) (M' := mem E mu257 la258) rfl ?_
                                                                                            exact h
                                                                                          · have h := h.2 hc
                                                                                            dsimp only
                                                                                            refine Ev.steps 1 (ip' := 864) (ls' := [some (.inr (.inr (some (100, 0)))), some (.inr (.inr (some (6, v1)))), some (.inr (.inr (some (7, v2)))), some (.inl v3)]) (st' := [.inl (0 : Int32)]) (M' := mem E mu257 la258) rfl ?_
                                                                                            exact Ev.retZ rfl rfl (Or.inl rfl) ⟨_, _, _, rfl, rfl, h⟩
                                                                                        · have h := h.2 hc42
                                                                                          by_cases hc43 : ((E.2.1 v3.toNatClampNeg) &&& (63 : Int32)) = 43
                                                                                          · refine Ev.one (s' := (865, [some (.inr (.inr (some (100, 0)))), some (.inr (.inr (some (6, v1)))), some (.inr (.inr (some (7, v2)))), some (.inl v3)], [], mem E mu la)) rfl rfl rfl (by rw [hc43]; rfl) ?_
                                                                                            have h := h.1 hc43
                                                                                            dsimp only
                                                                                            refine Ev.steps 5 (ip' := 870) (ls' := [some (.inr (.inr (some (100, 0)))), some (.inr (.inr (some (6, v1)))), some (.inr (.inr (some (7, v2)))), some (.inl v3)]) (st' := [.inl (v3 + (1 : Int32)), .inr (.inr (some (100, 0))), .inr (.inr (some (6, v1)))]) (M' := mem E mu la) rfl ?_
                                                                                            refine Ev.alx rfl h.1 ?_
                                                                                            have h := h.2
                                                                                            refine Ev.ci (J := mi_93) (as := [.inr (.inr (some (6, v1))), .inl (E.2.1 (v3 + (1 : Int32)).toNatClampNeg)]) (rest := []) rfl rfl rfl (Nat.le_of_ble_eq_true rfl) h (fun x259 mu260 la261 h => ?_)
                                                                                            refine Ev.steps 5 (ip' := 877) (ls' := [some (.inr (.inr (some (100, 0)))), some (.inr (.inr (some (6, v1)))), some (.inr (.inr (some (7, v2)))), some (.inl v3)]) (st' := [.inl (v3 + (1 : Int32)), .inr (.inr (some (100, 0))), .inr (.inr (some (7, v2))), .inl x259]) (M' := mem E mu260 la261) rfl ?_
                                                                                            refine Ev.alx rfl h.1 ?_
                                                                                            have h := h.2
                                                                                            refine Ev.ci (J := mi_225) (as := [.inr (.inr (some (7, v2))), .inl (E.2.1 (v3 + (1 : Int32)).toNatClampNeg)]) (rest := [.inl x259]) rfl rfl rfl (Nat.le_of_ble_eq_true rfl) h (fun x262 mu263 la264 h => ?_)
                                                                                            refine Ev.br (c := x259 = x262) (s1 := (890, [some (.inr (.inr (some (100, 0)))), some (.inr (.inr (some (6, v1)))), some (.inr (.inr (some (7, v2)))), some (.inl v3)], [], mem E mu263 la264)) (s2 := (880, [some (.inr (.inr (some (100, 0)))), some (.inr (.inr (some (6, v1)))), some (.inr (.inr (some (7, v2)))), some (.inl v3)], [], mem E mu263 la264)) rfl rfl rfl rfl (fun hc => ?_) (fun hc => ?_)
                                                                                            · have h := h.1 hc
                                                                                              dsimp only
                                                                                              refine Ev.steps 2 (ip' := 10) (ls' := [some (.inr (.inr (some (100, 0)))), some (.inr (.inr (some (6, v1)))), some (.inr (.inr (some (7, v2)))), some (.inl (v3 + (6 : Int32)))]) (st' := []) (M' := mem E mu263 la264) rfl ?_
                                                                                              exact h
                                                                                            · have h := h.2 hc
                                                                                              dsimp only
                                                                                              refine Ev.steps 1 (ip' := 881) (ls' := [some (.inr (.inr (some (100, 0)))), some (.inr (.inr (some (6, v1)))), some (.inr (.inr (some (7, v2)))), some (.inl v3)]) (st' := [.inl (0 : Int32)]) (M' := mem E mu263 la264) rfl ?_
                                                                                              exact Ev.retZ rfl rfl (Or.inl rfl) ⟨_, _, _, rfl, rfl, h⟩
                                                                                          · have h := h.2 hc43
                                                                                            by_cases hc44 : ((E.2.1 v3.toNatClampNeg) &&& (63 : Int32)) = 44
                                                                                            · refine Ev.one (s' := (882, [some (.inr (.inr (some (100, 0)))), some (.inr (.inr (some (6, v1)))), some (.inr (.inr (some (7, v2)))), some (.inl v3)], [], mem E mu la)) rfl rfl rfl (by rw [hc44]; rfl) ?_
                                                                                              have h := h.1 hc44
                                                                                              dsimp only
                                                                                              refine Ev.steps 1 (ip' := 883) (ls' := [some (.inr (.inr (some (100, 0)))), some (.inr (.inr (some (6, v1)))), some (.inr (.inr (some (7, v2)))), some (.inl v3)]) (st' := [.inr (.inr (some (6, v1)))]) (M' := mem E mu la) rfl ?_
                                                                                              refine Ev.cl (J := mi_94) (as := [.inr (.inr (some (6, v1)))]) (rest := []) rfl rfl rfl (Nat.le_of_ble_eq_true rfl) h (fun x265 mu266 la267 h => ?_)
                                                                                              refine Ev.steps 1 (ip' := 885) (ls' := [some (.inr (.inr (some (100, 0)))), some (.inr (.inr (some (6, v1)))), some (.inr (.inr (some (7, v2)))), some (.inl v3)]) (st' := [.inr (.inr (some (7, v2))), .inr (.inl x265)]) (M' := mem E mu266 la267) rfl ?_
                                                                                              refine Ev.cl (J := mi_226) (as := [.inr (.inr (some (7, v2)))]) (rest := [.inr (.inl x265)]) rfl rfl rfl (Nat.le_of_ble_eq_true rfl) h (fun x268 mu269 la270 h => ?_)
                                                                                              refine Ev.steps 1 (ip' := 887) (ls' := [some (.inr (.inr (some (100, 0)))), some (.inr (.inr (some (6, v1)))), some (.inr (.inr (some (7, v2)))), some (.inl v3)]) (st' := [.inl (lg_cmp x265 x268)]) (M' := mem E mu269 la270) rfl ?_
                                                                                              refine Ev.br (c := (lg_cmp x265 x268) = 0) (s1 := (890, [some (.inr (.inr (some (100, 0)))), some (.inr (.inr (some (6, v1)))), some (.inr (.inr (some (7, v2)))), some (.inl v3)], [], mem E mu269 la270)) (s2 := (888, [some (.inr (.inr (some (100, 0)))), some (.inr (.inr (some (6, v1)))), some (.inr (.inr (some (7, v2)))), some (.inl v3)], [], mem E mu269 la270)) rfl rfl rfl rfl (fun hc => ?_) (fun hc => ?_)
                                                                                              · have h := h.1 hc
                                                                                                dsimp only
                                                                                                refine Ev.steps 2 (ip' := 10) (ls' := [some (.inr (.inr (some (100, 0)))), some (.inr (.inr (some (6, v1)))), some (.inr (.inr (some (7, v2)))), some (.inl (v3 + (6 : Int32)))]) (st' := []) (M' := mem E mu269 la270) rfl ?_
                                                                                                exact h
                                                                                              · have h := h.2 hc
                                                                                                dsimp only
                                                                                                refine Ev.steps 1 (ip' := 889) (ls' := [some (.inr (.inr (some (100, 0)))), some (.inr (.inr (some (6, v1)))), some (.inr (.inr (some (7, v2)))), some (.inl v3)]) (st' := [.inl (0 : Int32)]) (M' := mem E mu269 la270) rfl ?_
                                                                                                exact Ev.retZ rfl rfl (Or.inl rfl) ⟨_, _, _, rfl, rfl, h⟩
                                                                                            · have h := h.2 hc44
                                                                                              refine Ev.one (s' := (890, [some (.inr (.inr (some (100, 0)))), some (.inr (.inr (some (6, v1)))), some (.inr (.inr (some (7, v2)))), some (.inl v3)], [], mem E mu la)) rfl rfl rfl (if_pos (tsw_out ((E.2.1 v3.toNatClampNeg) &&& (63 : Int32)) 0 44 (fun z h1 h2 => by
                                                                                                rcases (show z = 0 ∨ z = 1 ∨ z = 2 ∨ z = 3 ∨ z = 4 ∨ z = 5 ∨ z = 6 ∨ z = 7 ∨ z = 8 ∨ z = 9 ∨ z = 10 ∨ z = 11 ∨ z = 12 ∨ z = 13 ∨ z = 14 ∨ z = 15 ∨ z = 16 ∨ z = 17 ∨ z = 18 ∨ z = 19 ∨ z = 20 ∨ z = 21 ∨ z = 22 ∨ z = 23 ∨ z = 24 ∨ z = 25 ∨ z = 26 ∨ z = 27 ∨ z = 28 ∨ z = 29 ∨ z = 30 ∨ z = 31 ∨ z = 32 ∨ z = 33 ∨ z = 34 ∨ z = 35 ∨ z = 36 ∨ z = 37 ∨ z = 38 ∨ z = 39 ∨ z = 40 ∨ z = 41 ∨ z = 42 ∨ z = 43 ∨ z = 44 by omega) with rfl | rfl | rfl | rfl | rfl | rfl | rfl | rfl | rfl | rfl | rfl | rfl | rfl | rfl | rfl | rfl | rfl | rfl | rfl | rfl | rfl | rfl | rfl | rfl | rfl | rfl | rfl | rfl | rfl | rfl | rfl | rfl | rfl | rfl | rfl | rfl | rfl | rfl | rfl | rfl | rfl | rfl | rfl | rfl | rfl
                                                                                                · exact fun e => hc0 (Int32.toInt_inj.mp e)
                                                                                                · exact fun e => hc1 (Int32.toInt_inj.mp e)
                                                                                                · exact fun e => hc2 (Int32.toInt_inj.mp e)
                                                                                                · exact fun e => hc3 (Int32.toInt_inj.mp e)
                                                                                                · exact fun e => hc4 (Int32.toInt_inj.mp e)
                                                                                                · exact fun e => hc5 (Int32.toInt_inj.mp e)
                                                                                                · exact fun e => hc6 (Int32.toInt_inj.mp e)
                                                                                                · exact fun e => hc7 (Int32.toInt_inj.mp e)
                                                                                                · exact fun e => hc8 (Int32.toInt_inj.mp e)
                                                                                                · exact fun e => hc9 (Int32.toInt_inj.mp e)
                                                                                                · exact fun e => hc10 (Int32.toInt_inj.mp e)
                                                                                                · exact fun e => hc11 (Int32.toInt_inj.mp e)
                                                                                                · exact fun e => hc12 (Int32.toInt_inj.mp e)
                                                                                                · exact fun e => hc13 (Int32.toInt_inj.mp e)
                                                                                                · exact fun e => hc14 (Int32.toInt_inj.mp e)
                                                                                                · exact fun e => hc15 (Int32.toInt_inj.mp e)
                                                                                                · exact fun e => hc16 (Int32.toInt_inj.mp e)
                                                                                                · exact fun e => hc17 (Int32.toInt_inj.mp e)
                                                                                                · exact fun e => hc18 (Int32.toInt_inj.mp e)
                                                                                                · exact fun e => hc19 (Int32.toInt_inj.mp e)
                                                                                                · exact fun e => hc20 (Int32.toInt_inj.mp e)
                                                                                                · exact fun e => hc21 (Int32.toInt_inj.mp e)
                                                                                                · exact fun e => hc22 (Int32.toInt_inj.mp e)
                                                                                                · exact fun e => hc23 (Int32.toInt_inj.mp e)
                                                                                                · exact fun e => hc24 (Int32.toInt_inj.mp e)
                                                                                                · exact fun e => hc25 (Int32.toInt_inj.mp e)
                                                                                                · exact fun e => hc26 (Int32.toInt_inj.mp e)
                                                                                                · exact fun e => hc27 (Int32.toInt_inj.mp e)
                                                                                                · exact fun e => hc28 (Int32.toInt_inj.mp e)
                                                                                                · exact fun e => hc29 (Int32.toInt_inj.mp e)
                                                                                                · exact fun e => hc30 (Int32.toInt_inj.mp e)
                                                                                                · exact fun e => hc31 (Int32.toInt_inj.mp e)
                                                                                                · exact fun e => hc32 (Int32.toInt_inj.mp e)
                                                                                                · exact fun e => hc33 (Int32.toInt_inj.mp e)
                                                                                                · exact fun e => hc34 (Int32.toInt_inj.mp e)
                                                                                                · exact fun e => hc35 (Int32.toInt_inj.mp e)
                                                                                                · exact fun e => hc36 (Int32.toInt_inj.mp e)
                                                                                                · exact fun e => hc37 (Int32.toInt_inj.mp e)
                                                                                                · exact fun e => hc38 (Int32.toInt_inj.mp e)
                                                                                                · exact fun e => hc39 (Int32.toInt_inj.mp e)
                                                                                                · exact fun e => hc40 (Int32.toInt_inj.mp e)
                                                                                                · exact fun e => hc41 (Int32.toInt_inj.mp e)
                                                                                                · exact fun e => hc42 (Int32.toInt_inj.mp e)
                                                                                                · exact fun e => hc43 (Int32.toInt_inj.mp e)
                                                                                                · exact fun e => hc44 (Int32.toInt_inj.mp e)))) ?_
                                                                                              dsimp only
                                                                                              refine Ev.steps 2 (ip' := 10) (ls' := [some (.inr (.inr (some (100, 0)))), some (.inr (.inr (some (6, v1)))), some (.inr (.inr (some (7, v2)))), some (.inl (v3 + (6 : Int32)))]) (st' := []) (M' := mem E mu la) rfl ?_
                                                                                              exact h
