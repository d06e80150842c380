/-! CHECKS OF THE CODE of a long method, in pieces. By program (wip/p63/gen4.py). -/
set_option maxRecDepth 100000 in
theorem pk_158_000000 : pAll 5 (pLeaf 158) 0 64 pI_158.1.1.1.1.1.1 = true := by decide +kernel
set_option maxRecDepth 100000 in
theorem pk_158_000100 : pAll 5 (pLeaf 158) 8 64 pI_158.1.1.1.2.1.1 = true := by decide +kernel
set_option maxRecDepth 100000 in
theorem pk_158_001000 : pAll 5 (pLeaf 158) 4 64 pI_158.1.1.2.1.1.1 = true := by decide +kernel
set_option maxRecDepth 100000 in
theorem pk_158_001100 : pAll 5 (pLeaf 158) 12 64 pI_158.1.1.2.2.1.1 = true := by decide +kernel
set_option maxRecDepth 100000 in
theorem pk_158_010000 : pAll 5 (pLeaf 158) 2 64 pI_158.1.2.1.1.1.1 = true := by decide +kernel
set_option maxRecDepth 100000 in
theorem pk_158_010100 : pAll 5 (pLeaf 158) 10 64 pI_158.1.2.1.2.1.1 = true := by decide +kernel
set_option maxRecDepth 100000 in
theorem pk_158_011000 : pAll 5 (pLeaf 158) 6 64 pI_158.1.2.2.1.1.1 = true := by decide +kernel
set_option maxRecDepth 100000 in
theorem pk_158_011100 : pAll 5 (pLeaf 158) 14 64 pI_158.1.2.2.2.1.1 = true := by decide +kernel
set_option maxRecDepth 100000 in
theorem pk_158_100000 : pAll 5 (pLeaf 158) 1 64 pI_158.2.1.1.1.1.1 = true := by decide +kernel
set_option maxRecDepth 100000 in
theorem pk_158_100100 : pAll 5 (pLeaf 158) 9 64 pI_158.2.1.1.2.1.1 = true := by decide +kernel
set_option maxRecDepth 100000 in
theorem pk_158_101000 : pAll 5 (pLeaf 158) 5 64 pI_158.2.1.2.1.1.1 = true := by decide +kernel
set_option maxRecDepth 100000 in
theorem pk_158_101100 : pAll 5 (pLeaf 158) 13 64 pI_158.2.1.2.2.1.1 = true := by decide +kernel
set_option maxRecDepth 100000 in
theorem pk_158_110000 : pAll 5 (pLeaf 158) 3 64 pI_158.2.2.1.1.1.1 = true := by decide +kernel
set_option maxRecDepth 100000 in
theorem pk_158_110100 : pAll 5 (pLeaf 158) 11 64 pI_158.2.2.1.2.1.1 = true := by decide +kernel
set_option maxRecDepth 100000 in
theorem pk_158_111000 : pAll 5 (pLeaf 158) 7 64 pI_158.2.2.2.1.1.1 = true := by decide +kernel
set_option maxRecDepth 100000 in
theorem pk_158_111100 : pAll 5 (pLeaf 158) 15 64 pI_158.2.2.2.2.1.1 = true := by decide +kernel
